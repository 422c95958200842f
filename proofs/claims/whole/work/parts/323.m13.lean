-- X5_personThen
theorem iX5_personThen_1 : ∀ w ∈ wsX50, w ∈ wsX5_personThen := by decide +kernel
section
variable {p : Program} {l : Launch} {e : Env} {s : State} {m : MethodId} {args : Array Value} {below : List Frame} {meth : Method} {c : Code} {D : va_G} {cy : ClassId × ClassId} {ad : Nat → Nat} {A : Nat → Prop} {res : (Int × mm)}
theorem CJ5_personThen_39 (X : zX p s m args meth c cX5_personThen RX5 wsX5_personThen 5 D cy ad (some .int) A) (N : Nat) : ∀ (x1 : Int) (x2 : Int) (x3 : Int) (x4 : Int) (μ : mm), J5_personThen_39 N x1 x2 x3 x4 μ = some res → ∀ (H : Heap) (locs : List Loc) (ls : Array Slot), zW D cy ad A s.heap μ H locs → lv_has ls 5 [(0, .ref (ad 0)), (1, .int (iO x1)), (2, .int (iO x2)), (3, .int (iO x3)), (4, .int (iO x4))] → W p l e (rmD 7) s m args below meth c H locs 0 0 (MQ below (zQi D cy ad A res.1 res.2) args s 0 0 A) (F0 m 39 ls []) := by
  intro x1 x2 x3 x4 μ h H locs ls hW hl
  rw [J5_personThen_39] at h
  refine z_iload (pc := 39) X.1 hl 4 rfl dX5_personThen_39 ?_
  obtain ⟨g4, h⟩ := z_guard h
  refine z_if_eq (pc := 41) (tgt := 51) X.1 dX5_personThen_41 (by decide) g4 h (fun c14 h => ?_) (fun c14 h => ?_)
  · refine z_aload_n (pc := 51) X.1 hl 0 rfl rfl dX5_personThen_51 ?_
    refine z_iload_n (pc := 52) X.1 hl 2 rfl rfl dX5_personThen_52 ?_
    obtain ⟨q5, eq5, h⟩ := z_bind h
    refine z_callV1V (pc := 53) (n := 1) (As := [.int (iO x2)]) (rest := []) X hW hl rfl (C5_takes l N x2 μ eq5) gX5_personThen_X5_takes rfl (by decide +kernel) rfl (by decide) rfl (Nat.le_of_ble_eq_true rfl) dX5_personThen_53 (fun H locs hW => ?_)
    refine z_iload_n (pc := 56) X.1 hl 3 rfl rfl dX5_personThen_56 ?_
    refine z_iconst (pc := 57) X.1 dX5_personThen_57 ?_
    obtain ⟨g6, h⟩ := z_guard h
    refine z_icmp_ge (pc := 58) (tgt := 74) X.1 dX5_personThen_58 (by decide) ⟨g6, (by decide)⟩ h (fun c12 h => ?_) (fun c12 h => ?_)
    · refine z_aload_n (pc := 74) X.1 hl 0 rfl rfl dX5_personThen_74 ?_
      refine z_get1 (pc := 75) X.1 hW rfl iX5_personThen_1 1 (by decide) rfl (by decide +kernel) dX5_personThen_75 ?_
      refine z_iload_n (pc := 78) X.1 hl 1 rfl rfl dX5_personThen_78 ?_
      refine z_iconst (pc := 79) X.1 dX5_personThen_79 ?_
      refine z_callSI (pc := 80) (n := 2) (As := [.int (iO x1), .int (iO 5)]) (rest := [.ref (ad 2)]) X hW hl (C5_of l N x1 5 q5) gX5_personThen_X5_of rfl (by decide +kernel) rfl (by decide) rfl (Nat.le_of_ble_eq_true rfl) dX5_personThen_80 (fun H locs hW => ?_)
      obtain ⟨g7, h⟩ := z_guard h
      refine z_iald (pc := 83) X.1 hW rfl ⟨g7.1, g7.2⟩ dX5_personThen_83 ?_
      refine z_aload_n (pc := 84) X.1 hl 0 rfl rfl dX5_personThen_84 ?_
      refine z_get1 (pc := 85) X.1 hW rfl iX5_personThen_1 0 (by decide) rfl (by decide +kernel) dX5_personThen_85 ?_
      refine z_iload_n (pc := 88) X.1 hl 1 rfl rfl dX5_personThen_88 ?_
      refine z_iconst (pc := 89) X.1 dX5_personThen_89 ?_
      refine z_callSI (pc := 90) (n := 2) (As := [.int (iO x1), .int (iO 5)]) (rest := [.ref (ad 1), .int (iO (q5 2 (((4 + (6 * x1)) + 5)).toNat))]) X hW hl (C5_of l N x1 5 q5) gX5_personThen_X5_of rfl (by decide +kernel) rfl (by decide) rfl (Nat.le_of_ble_eq_true rfl) dX5_personThen_90 (fun H locs hW => ?_)
      obtain ⟨g8, h⟩ := z_guard h
      refine z_iald (pc := 93) X.1 hW rfl ⟨g8.1, g8.2⟩ dX5_personThen_93 ?_
      obtain ⟨g9, h⟩ := z_guard h
      refine z_icmp_le (pc := 94) (tgt := 101) X.1 dX5_personThen_94 (by decide) ⟨g9.1, g9.2⟩ h (fun c10 h => ?_) (fun c10 h => ?_)
      · refine z_iconst (pc := 101) X.1 dX5_personThen_101 ?_
        exact z_iret (pc := 102) X hW (z_p1 h) (z_p2 h) dX5_personThen_102
      · refine z_iconst (pc := 97) X.1 dX5_personThen_97 ?_
        refine z_goto (pc := 98) (tgt := 102) X.1 dX5_personThen_98 (by decide) ?_
        exact z_iret (pc := 102) X hW (z_p1 h) (z_p2 h) dX5_personThen_102
    · refine z_aload_n (pc := 61) X.1 hl 0 rfl rfl dX5_personThen_61 ?_
      refine z_get1 (pc := 62) X.1 hW rfl iX5_personThen_1 1 (by decide) rfl (by decide +kernel) dX5_personThen_62 ?_
      refine z_iload_n (pc := 65) X.1 hl 1 rfl rfl dX5_personThen_65 ?_
      refine z_iconst (pc := 66) X.1 dX5_personThen_66 ?_
      refine z_iload_n (pc := 67) X.1 hl 3 rfl rfl dX5_personThen_67 ?_
      refine z_iadd (pc := 68) X.1 dX5_personThen_68 ?_
      refine z_callSI (pc := 69) (n := 2) (As := [.int (iO x1), .int (iO (2 + x3))]) (rest := [.ref (ad 2)]) X hW hl (C5_of l N x1 (2 + x3) q5) gX5_personThen_X5_of rfl (by decide +kernel) rfl (by decide) rfl (Nat.le_of_ble_eq_true rfl) dX5_personThen_69 (fun H locs hW => ?_)
      obtain ⟨g11, h⟩ := z_guard h
      refine z_iald (pc := 72) X.1 hW rfl ⟨g11.1, g11.2⟩ dX5_personThen_72 ?_
      exact z_iret (pc := 73) X hW (z_p1 h) (z_p2 h) dX5_personThen_73
  · refine z_aload_n (pc := 44) X.1 hl 0 rfl rfl dX5_personThen_44 ?_
    refine z_iload (pc := 45) X.1 hl 4 rfl dX5_personThen_45 ?_
    obtain ⟨q13, eq13, h⟩ := z_bind h
    refine z_callV1I (pc := 47) (n := 1) (As := [.int (iO x4)]) (rest := []) X hW hl rfl (C5_no l N x4 μ eq13) gX5_personThen_X5_no rfl (by decide +kernel) rfl (by decide) rfl (Nat.le_of_ble_eq_true rfl) dX5_personThen_47 (fun H locs hW => ?_)
    exact z_iret (pc := 50) X hW (z_p1 h) (z_p2 h) dX5_personThen_50
theorem CJ5_personThen_19 (X : zX p s m args meth c cX5_personThen RX5 wsX5_personThen 5 D cy ad (some .int) A) (N : Nat) : ∀ (x1 : Int) (x2 : Int) (x3 : Int) (y0 : Int) (μ : mm), J5_personThen_19 N x1 x2 x3 y0 μ = some res → ∀ (H : Heap) (locs : List Loc) (ls : Array Slot), zW D cy ad A s.heap μ H locs → lv_has ls 5 [(0, .ref (ad 0)), (1, .int (iO x1)), (2, .int (iO x2)), (3, .int (iO x3))] → W p l e (rmD 7) s m args below meth c H locs 0 0 (MQ below (zQi D cy ad A res.1 res.2) args s 0 0 A) (F0 m 19 ls [.int (iO y0)]) := by
  intro x1 x2 x3 y0 μ h H locs ls hW hl
  rw [J5_personThen_19] at h
  refine z_istore (pc := 19) (i := 4) X.1 [(4, .int (iO y0)), (0, .ref (ad 0)), (1, .int (iO x1)), (2, .int (iO x2)), (3, .int (iO x3))] hl rfl (by decide) rfl dX5_personThen_19 (fun ls hl => ?_)
  refine z_iload (pc := 21) X.1 hl 0 rfl dX5_personThen_21 ?_
  obtain ⟨g3, h⟩ := z_guard h
  refine z_if_ne (pc := 23) (tgt := 39) X.1 dX5_personThen_23 (by decide) g3 h (fun c18 h => ?_) (fun c18 h => ?_)
  · exact CJ5_personThen_39 X N x1 x2 x3 y0 μ h _ _ ls hW (lv_sub hl [1, 2, 3, 4, 0] rfl)
  · refine z_iload_n (pc := 26) X.1 hl 4 rfl rfl dX5_personThen_26 ?_
    refine z_iconst (pc := 27) X.1 dX5_personThen_27 ?_
    refine z_iconst (pc := 28) X.1 dX5_personThen_28 ?_
    obtain ⟨q15, eq15, h⟩ := z_bind h
    refine z_callSI (pc := 29) (n := 3) (As := [.int (iO x3), .int (iO 0), .int (iO 4)]) (rest := []) X hW hl (C5_isIn l N x3 0 4 μ eq15) gX5_personThen_X5_isIn rfl (by decide +kernel) rfl (by decide) rfl (Nat.le_of_ble_eq_true rfl) dX5_personThen_29 (fun H locs hW => ?_)
    obtain ⟨g16, h⟩ := z_guard h
    refine z_if_ne (pc := 32) (tgt := 39) X.1 dX5_personThen_32 (by decide) g16 h (fun c17 h => ?_) (fun c17 h => ?_)
    · exact CJ5_personThen_39 X N x1 x2 x3 y0 μ h _ _ ls hW (lv_sub hl [1, 2, 3, 4, 0] rfl)
    · refine z_bipush (pc := 35) X.1 dX5_personThen_35 (by decide) ?_
      refine z_istore (pc := 37) (i := 4) X.1 [(4, .int (iO (-2))), (0, .ref (ad 0)), (1, .int (iO x1)), (2, .int (iO x2)), (3, .int (iO x3))] hl rfl (by decide) rfl dX5_personThen_37 (fun ls hl => ?_)
      exact CJ5_personThen_39 X N x1 x2 x3 (-2) μ h _ _ ls hW (lv_sub hl [1, 2, 3, 4, 0] rfl)
end
theorem C5_personThen (l : Launch) {D : va_G} {cy : ClassId × ClassId} {ad : Nat → Nat} (N : Nat) (a0 : Int) (a1 : Int) (a2 : Int) (μ : mm) {res : (Int × mm)} (h : M5_personThen N a0 a1 a2 μ = some res) : zI l yX5_personThen wsX5_personThen 7 D cy ad [.ref (ad 0), .int (iO a0), .int (iO a1), .int (iO a2)] μ res.1 res.2 := by
  refine zI.of RX5 rfl (by decide) rfl (Nat.le_of_ble_eq_true rfl) ?_
  intro p e s m args below meth c A X hW ls hl
  have hl : lv_has ls 5 [(0, .ref (ad 0)), (1, .int (iO a0)), (2, .int (iO a1)), (3, .int (iO a2))] := hl
  unfold M5_personThen at h
  refine z_aload_n (pc := 0) X.1 hl 0 rfl rfl dX5_personThen_0 ?_
  refine z_iload_n (pc := 1) X.1 hl 1 rfl rfl dX5_personThen_1 ?_
  obtain ⟨q1, eq1, h⟩ := z_bind h
  refine z_callV1I (pc := 2) (n := 1) (As := [.int (iO a0)]) (rest := []) X hW hl rfl (C5_isOne l N a0 μ eq1) gX5_personThen_X5_isOne rfl (by decide +kernel) rfl (by decide) rfl (Nat.le_of_ble_eq_true rfl) dX5_personThen_2 (fun H locs hW => ?_)
  obtain ⟨g2, h⟩ := z_guard h
  refine z_if_eq (pc := 5) (tgt := 18) X.1 dX5_personThen_5 (by decide) g2 h (fun c20 h => ?_) (fun c20 h => ?_)
  · refine z_iconst (pc := 18) X.1 dX5_personThen_18 ?_
    exact CJ5_personThen_19 X N a0 a1 a2 (-1) μ h _ _ ls hW (lv_sub hl [0, 1, 2, 3] rfl)
  · refine z_iload_n (pc := 8) X.1 hl 2 rfl rfl dX5_personThen_8 ?_
    refine z_iconst (pc := 9) X.1 dX5_personThen_9 ?_
    refine z_bipush (pc := 10) X.1 dX5_personThen_10 (by decide) ?_
    obtain ⟨q19, eq19, h⟩ := z_bind h
    refine z_callSI (pc := 12) (n := 3) (As := [.int (iO a1), .int (iO 0), .int (iO 99)]) (rest := []) X hW hl (C5_wrongBy l N a1 0 99 μ eq19) gX5_personThen_X5_wrongBy rfl (by decide +kernel) rfl (by decide) rfl (Nat.le_of_ble_eq_true rfl) dX5_personThen_12 (fun H locs hW => ?_)
    refine z_goto (pc := 15) (tgt := 19) X.1 dX5_personThen_15 (by decide) ?_
    exact CJ5_personThen_19 X N a0 a1 a2 q19 μ h _ _ ls hW (lv_sub hl [0, 1, 2, 3] rfl)
-- X5_allThen
theorem iX5_allThen_1 : ∀ w ∈ wsX50, w ∈ wsX5_allThen := by decide +kernel
section
variable {p : Program} {l : Launch} {e : Env} {s : State} {m : MethodId} {args : Array Value} {below : List Frame} {meth : Method} {c : Code} {D : va_G} {cy : ClassId × ClassId} {ad : Nat → Nat} {A : Nat → Prop} {res : (Int × mm)}
theorem CJ5_allThen_24 (X : zX p s m args meth c cX5_allThen RX5 wsX5_allThen 4 D cy ad (some .int) A) (N : Nat) : ∀ (x1 : Int) (x2 : Int) (x3 : Int) (μ : mm), J5_allThen_24 N x1 x2 x3 μ = some res → ∀ (H : Heap) (locs : List Loc) (ls : Array Slot), zW D cy ad A s.heap μ H locs → lv_has ls 4 [(0, .ref (ad 0)), (1, .int (iO x1)), (2, .int (iO x2)), (3, .int (iO x3))] → W p l e (rmD 7) s m args below meth c H locs 0 0 (MQ below (zQi D cy ad A res.1 res.2) args s 0 0 A) (F0 m 24 ls []) := by
  intro x1 x2 x3 μ h H locs ls hW hl
  rw [J5_allThen_24] at h
  refine z_iload_n (pc := 24) X.1 hl 3 rfl rfl dX5_allThen_24 ?_
  obtain ⟨g3, h⟩ := z_guard h
  refine z_if_eq (pc := 25) (tgt := 34) X.1 dX5_allThen_25 (by decide) g3 h (fun c12 h => ?_) (fun c12 h => ?_)
  · refine z_aload_n (pc := 34) X.1 hl 0 rfl rfl dX5_allThen_34 ?_
    refine z_iload_n (pc := 35) X.1 hl 1 rfl rfl dX5_allThen_35 ?_
    obtain ⟨q4, eq4, h⟩ := z_bind h
    refine z_callV1V (pc := 36) (n := 1) (As := [.int (iO x1)]) (rest := []) X hW hl rfl (C5_takes l N x1 μ eq4) gX5_allThen_X5_takes rfl (by decide +kernel) rfl (by decide) rfl (Nat.le_of_ble_eq_true rfl) dX5_allThen_36 (fun H locs hW => ?_)
    refine z_iload_n (pc := 39) X.1 hl 2 rfl rfl dX5_allThen_39 ?_
    obtain ⟨g5, h⟩ := z_guard h
    refine z_if_ne (pc := 40) (tgt := 54) X.1 dX5_allThen_40 (by decide) g5 h (fun c10 h => ?_) (fun c10 h => ?_)
    · refine z_iload_n (pc := 54) X.1 hl 2 rfl rfl dX5_allThen_54 ?_
      refine z_iconst (pc := 55) X.1 dX5_allThen_55 ?_
      obtain ⟨g6, h⟩ := z_guard h
      refine z_icmp_ne (pc := 56) (tgt := 70) X.1 dX5_allThen_56 (by decide) ⟨g6, (by decide)⟩ h (fun c8 h => ?_) (fun c8 h => ?_)
      · refine z_aload_n (pc := 70) X.1 hl 0 rfl rfl dX5_allThen_70 ?_
        refine z_get1 (pc := 71) X.1 hW rfl iX5_allThen_1 1 (by decide) rfl (by decide +kernel) dX5_allThen_71 ?_
        refine z_iconst (pc := 74) X.1 dX5_allThen_74 ?_
        refine z_iald (pc := 75) X.1 hW rfl ⟨(by decide), (by decide)⟩ dX5_allThen_75 ?_
        exact z_iret (pc := 76) X hW (z_p1 h) (z_p2 h) dX5_allThen_76
      · refine z_aload_n (pc := 59) X.1 hl 0 rfl rfl dX5_allThen_59 ?_
        refine z_get1 (pc := 60) X.1 hW rfl iX5_allThen_1 1 (by decide) rfl (by decide +kernel) dX5_allThen_60 ?_
        refine z_iconst (pc := 63) X.1 dX5_allThen_63 ?_
        obtain ⟨q7, eq7, h⟩ := z_bind h
        refine z_callSI (pc := 64) (n := 2) (As := [.ref (ad 2), .int (iO 5)]) (rest := []) X hW hl (C5_allOf l N 2 5 (by decide) q4 eq7) gX5_allThen_X5_allOf rfl (by decide +kernel) rfl (by decide) rfl (Nat.le_of_ble_eq_true rfl) dX5_allThen_64 (fun H locs hW => ?_)
        refine z_goto (pc := 67) (tgt := 76) X.1 dX5_allThen_67 (by decide) ?_
        exact z_iret (pc := 76) X hW (z_p1 h) (z_p2 h) dX5_allThen_76
    · refine z_aload_n (pc := 43) X.1 hl 0 rfl rfl dX5_allThen_43 ?_
      refine z_get1 (pc := 44) X.1 hW rfl iX5_allThen_1 1 (by decide) rfl (by decide +kernel) dX5_allThen_44 ?_
      refine z_iconst (pc := 47) X.1 dX5_allThen_47 ?_
      obtain ⟨q9, eq9, h⟩ := z_bind h
      refine z_callSI (pc := 48) (n := 2) (As := [.ref (ad 2), .int (iO 4)]) (rest := []) X hW hl (C5_allOf l N 2 4 (by decide) q4 eq9) gX5_allThen_X5_allOf rfl (by decide +kernel) rfl (by decide) rfl (Nat.le_of_ble_eq_true rfl) dX5_allThen_48 (fun H locs hW => ?_)
      refine z_goto (pc := 51) (tgt := 76) X.1 dX5_allThen_51 (by decide) ?_
      exact z_iret (pc := 76) X hW (z_p1 h) (z_p2 h) dX5_allThen_76
  · refine z_aload_n (pc := 28) X.1 hl 0 rfl rfl dX5_allThen_28 ?_
    refine z_iload_n (pc := 29) X.1 hl 3 rfl rfl dX5_allThen_29 ?_
    obtain ⟨q11, eq11, h⟩ := z_bind h
    refine z_callV1I (pc := 30) (n := 1) (As := [.int (iO x3)]) (rest := []) X hW hl rfl (C5_no l N x3 μ eq11) gX5_allThen_X5_no rfl (by decide +kernel) rfl (by decide) rfl (Nat.le_of_ble_eq_true rfl) dX5_allThen_30 (fun H locs hW => ?_)
    exact z_iret (pc := 33) X hW (z_p1 h) (z_p2 h) dX5_allThen_33
end
theorem C5_allThen (l : Launch) {D : va_G} {cy : ClassId × ClassId} {ad : Nat → Nat} (N : Nat) (a0 : Int) (a1 : Int) (μ : mm) {res : (Int × mm)} (h : M5_allThen N a0 a1 μ = some res) : zI l yX5_allThen wsX5_allThen 7 D cy ad [.ref (ad 0), .int (iO a0), .int (iO a1)] μ res.1 res.2 := by
  refine zI.of RX5 rfl (by decide) rfl (Nat.le_of_ble_eq_true rfl) ?_
  intro p e s m args below meth c A X hW ls hl
  have hl : lv_has ls 4 [(0, .ref (ad 0)), (1, .int (iO a0)), (2, .int (iO a1))] := hl
  unfold M5_allThen at h
  refine z_iload_n (pc := 0) X.1 hl 1 rfl rfl dX5_allThen_0 ?_
  refine z_iconst (pc := 1) X.1 dX5_allThen_1 ?_
  refine z_bipush (pc := 2) X.1 dX5_allThen_2 (by decide) ?_
  obtain ⟨q1, eq1, h⟩ := z_bind h
  refine z_callSI (pc := 4) (n := 3) (As := [.int (iO a0), .int (iO 0), .int (iO 99)]) (rest := []) X hW hl (C5_wrongBy l N a0 0 99 μ eq1) gX5_allThen_X5_wrongBy rfl (by decide +kernel) rfl (by decide) rfl (Nat.le_of_ble_eq_true rfl) dX5_allThen_4 (fun H locs hW => ?_)
  refine z_istore_n (pc := 7) (i := 3) X.1 [(3, .int (iO q1)), (0, .ref (ad 0)), (1, .int (iO a0)), (2, .int (iO a1))] hl rfl rfl (by decide) rfl dX5_allThen_7 (fun ls hl => ?_)
  refine z_iload_n (pc := 8) X.1 hl 0 rfl rfl dX5_allThen_8 ?_
  obtain ⟨g2, h⟩ := z_guard h
  refine z_if_ne (pc := 9) (tgt := 24) X.1 dX5_allThen_9 (by decide) g2 h (fun c16 h => ?_) (fun c16 h => ?_)
  · exact CJ5_allThen_24 X N a0 a1 q1 μ h _ _ ls hW (lv_sub hl [1, 2, 3, 0] rfl)
  · refine z_iload_n (pc := 12) X.1 hl 3 rfl rfl dX5_allThen_12 ?_
    refine z_iconst (pc := 13) X.1 dX5_allThen_13 ?_
    refine z_iconst (pc := 14) X.1 dX5_allThen_14 ?_
    obtain ⟨q13, eq13, h⟩ := z_bind h
    refine z_callSI (pc := 15) (n := 3) (As := [.int (iO a1), .int (iO 0), .int (iO 2)]) (rest := []) X hW hl (C5_isIn l N a1 0 2 μ eq13) gX5_allThen_X5_isIn rfl (by decide +kernel) rfl (by decide) rfl (Nat.le_of_ble_eq_true rfl) dX5_allThen_15 (fun H locs hW => ?_)
    obtain ⟨g14, h⟩ := z_guard h
    refine z_if_ne (pc := 18) (tgt := 24) X.1 dX5_allThen_18 (by decide) g14 h (fun c15 h => ?_) (fun c15 h => ?_)
    · exact CJ5_allThen_24 X N a0 a1 q1 μ h _ _ ls hW (lv_sub hl [1, 2, 3, 0] rfl)
    · refine z_bipush (pc := 21) X.1 dX5_allThen_21 (by decide) ?_
      refine z_istore_n (pc := 23) (i := 3) X.1 [(3, .int (iO (-2))), (0, .ref (ad 0)), (1, .int (iO a0)), (2, .int (iO a1))] hl rfl rfl (by decide) rfl dX5_allThen_23 (fun ls hl => ?_)
      exact CJ5_allThen_24 X N a0 a1 (-2) μ h _ _ ls hW (lv_sub hl [1, 2, 3, 0] rfl)
-- X5_isShortOn
theorem iX5_isShortOn_1 : ∀ w ∈ wsX50, w ∈ wsX5_isShortOn := by decide +kernel
theorem C5_isShortOn (l : Launch) {D : va_G} {cy : ClassId × ClassId} {ad : Nat → Nat} (N : Nat) (a0 : Int) (μ0 : mm) {res : Int} (h : M5_isShortOn N a0 μ0 = some res) : zI l yX5_isShortOn wsX5_isShortOn 2 D cy ad [.ref (ad 0), .int (iO a0)] μ0 res μ0 := by
  refine zI.of RX5 rfl (by decide) rfl (Nat.le_of_ble_eq_true rfl) ?_
  intro p e s m args below meth c A X hW ls hl
  have hl : lv_has ls 2 [(0, .ref (ad 0)), (1, .int (iO a0))] := hl
  unfold M5_isShortOn at h
  refine z_aload_n (pc := 0) X.1 hl 0 rfl rfl dX5_isShortOn_0 ?_
  refine z_get1 (pc := 1) X.1 hW rfl iX5_isShortOn_1 3 (by decide) rfl (by decide +kernel) dX5_isShortOn_1 ?_
  refine z_iload_n (pc := 4) X.1 hl 1 rfl rfl dX5_isShortOn_4 ?_
  refine z_iconst (pc := 5) X.1 dX5_isShortOn_5 ?_
  refine z_callSI (pc := 6) (n := 2) (As := [.int (iO a0), .int (iO 3)]) (rest := [.ref (ad 4)]) X hW hl (C5_of l N a0 3 μ0) gX5_isShortOn_X5_of rfl (by decide +kernel) rfl (by decide) rfl (Nat.le_of_ble_eq_true rfl) dX5_isShortOn_6 (fun H locs hW => ?_)
  obtain ⟨g1, h⟩ := z_guard h
  refine z_iald (pc := 9) X.1 hW rfl ⟨g1.1, g1.2⟩ dX5_isShortOn_9 ?_
  refine z_iconst (pc := 10) X.1 dX5_isShortOn_10 ?_
  obtain ⟨g2, h⟩ := z_guard h
  refine z_icmp_ne (pc := 11) (tgt := 39) X.1 dX5_isShortOn_11 (by decide) ⟨g2, (by decide)⟩ h (fun c7 h => ?_) (fun c7 h => ?_)
  · refine z_iconst (pc := 39) X.1 dX5_isShortOn_39 ?_
    exact z_zret (pc := 40) X hW (by decide) (Option.some.inj h) rfl dX5_isShortOn_40
  · refine z_aload_n (pc := 14) X.1 hl 0 rfl rfl dX5_isShortOn_14 ?_
    refine z_get1 (pc := 15) X.1 hW rfl iX5_isShortOn_1 3 (by decide) rfl (by decide +kernel) dX5_isShortOn_15 ?_
    refine z_iload_n (pc := 18) X.1 hl 1 rfl rfl dX5_isShortOn_18 ?_
    refine z_iconst (pc := 19) X.1 dX5_isShortOn_19 ?_
    refine z_callSI (pc := 20) (n := 2) (As := [.int (iO a0), .int (iO 2)]) (rest := [.ref (ad 4)]) X hW hl (C5_of l N a0 2 μ0) gX5_isShortOn_X5_of rfl (by decide +kernel) rfl (by decide) rfl (Nat.le_of_ble_eq_true rfl) dX5_isShortOn_20 (fun H locs hW => ?_)
    obtain ⟨g3, h⟩ := z_guard h
    refine z_iald (pc := 23) X.1 hW rfl ⟨g3.1, g3.2⟩ dX5_isShortOn_23 ?_
    refine z_aload_n (pc := 24) X.1 hl 0 rfl rfl dX5_isShortOn_24 ?_
    refine z_get1 (pc := 25) X.1 hW rfl iX5_isShortOn_1 3 (by decide) rfl (by decide +kernel) dX5_isShortOn_25 ?_
    refine z_iload_n (pc := 28) X.1 hl 1 rfl rfl dX5_isShortOn_28 ?_
    obtain ⟨q4, eq4, h⟩ := z_bind h
    refine z_callSI (pc := 29) (n := 2) (As := [.ref (ad 4), .int (iO a0)]) (rest := [.int (iO (μ0 4 (((4 + (6 * a0)) + 2)).toNat))]) X hW hl (C5_needs l N 4 a0 (by decide) μ0 eq4) gX5_isShortOn_X5_needs rfl (by decide +kernel) rfl (by decide) rfl (Nat.le_of_ble_eq_true rfl) dX5_isShortOn_29 (fun H locs hW => ?_)
    obtain ⟨g5, h⟩ := z_guard h
    refine z_icmp_ge (pc := 32) (tgt := 39) X.1 dX5_isShortOn_32 (by decide) ⟨g5.1, g5.2⟩ h (fun c6 h => ?_) (fun c6 h => ?_)
    · refine z_iconst (pc := 39) X.1 dX5_isShortOn_39 ?_
      exact z_zret (pc := 40) X hW (by decide) (Option.some.inj h) rfl dX5_isShortOn_40
    · refine z_iconst (pc := 35) X.1 dX5_isShortOn_35 ?_
      refine z_goto (pc := 36) (tgt := 40) X.1 dX5_isShortOn_36 (by decide) ?_
      exact z_zret (pc := 40) X hW (by decide) (Option.some.inj h) rfl dX5_isShortOn_40
-- X5_first
theorem iX5_first_1 : ∀ w ∈ wsX50, w ∈ wsX5_first := by decide +kernel
section
variable {p : Program} {l : Launch} {e : Env} {s : State} {m : MethodId} {args : Array Value} {below : List Frame} {meth : Method} {c : Code} {D : va_G} {cy : ClassId × ClassId} {ad : Nat → Nat} {A : Nat → Prop} {res : (Int × mm)}
theorem CL5_first_55 (X : zX p s m args meth c cX5_first RX5 wsX5_first 4 D cy ad (some .int) A) (N : Nat) (rec29 : Int → Int → mm → Option (Int × mm)) (hrec29 : ∀ (x1 : Int) (x2 : Int) (μ : mm), rec29 x1 x2 μ = some res → ∀ (H : Heap) (locs : List Loc) (ls : Array Slot), zW D cy ad A s.heap μ H locs → lv_has ls 4 [(0, .ref (ad 0)), (1, .int (iO x1)), (2, .int (iO x2))] → W p l e (rmD 5) s m args below meth c H locs 0 0 (MQ below (zQi D cy ad A res.1 res.2) args s 0 0 A) (F0 m 29 ls [])) : ∀ (k : Nat) (x1 : Int) (x2 : Int) (x3 : Int) (μ : mm), L5_first_55 N rec29 k x1 x2 x3 μ = some res → ∀ (H : Heap) (locs : List Loc) (ls : Array Slot), zW D cy ad A s.heap μ H locs → lv_has ls 4 [(0, .ref (ad 0)), (1, .int (iO x1)), (2, .int (iO x2)), (3, .int (iO x3))] → W p l e (rmD 5) s m args below meth c H locs 0 0 (MQ below (zQi D cy ad A res.1 res.2) args s 0 0 A) (F0 m 55 ls []) := by
  intro k
  induction k with
  | zero =>
    intro x1 x2 x3 μ h H locs ls hW hl
    exact absurd h (by rw [L5_first_55]; exact fun z => by cases z)
  | succ k ih =>
    intro x1 x2 x3 μ h H locs ls hW hl
    rw [L5_first_55] at h
    refine z_iload_n (pc := 55) X.1 hl 3 rfl rfl dX5_first_55 ?_
    refine z_aload_n (pc := 56) X.1 hl 0 rfl rfl dX5_first_56 ?_
    refine z_get1 (pc := 57) X.1 hW rfl iX5_first_1 0 (by decide) rfl (by decide +kernel) dX5_first_57 ?_
    refine z_iconst (pc := 60) X.1 dX5_first_60 ?_
    refine z_iald (pc := 61) X.1 hW rfl ⟨(by decide), (by decide)⟩ dX5_first_61 ?_
    obtain ⟨g7, h⟩ := z_guard h
    refine z_icmp_ge (pc := 62) (tgt := 89) X.1 dX5_first_62 (by decide) ⟨g7.1, g7.2⟩ h (fun c13 h => ?_) (fun c13 h => ?_)
    · refine z_iinc (pc := 89) (i := 2) X.1 [(2, .int (iO (x2 + 1))), (0, .ref (ad 0)), (1, .int (iO x1)), (3, .int (iO x3))] hl 2 rfl rfl (by decide) rfl dX5_first_89 (fun ls hl => ?_)
      refine z_goto (pc := 92) (tgt := 29) X.1 dX5_first_92 (by decide) ?_
      exact hrec29 x1 (x2 + 1) μ h _ _ ls hW (lv_sub hl [1, 2, 0] rfl)
    · refine z_aload_n (pc := 65) X.1 hl 0 rfl rfl dX5_first_65 ?_
      refine z_iload_n (pc := 66) X.1 hl 3 rfl rfl dX5_first_66 ?_
      obtain ⟨q8, eq8, h⟩ := z_bind h
      refine z_callV1I (pc := 67) (n := 1) (As := [.int (iO x3)]) (rest := []) X hW hl rfl (C5_isShortOn l N x3 μ eq8) gX5_first_X5_isShortOn rfl (by decide +kernel) rfl (by decide) rfl (Nat.le_of_ble_eq_true rfl) dX5_first_67 (fun H locs hW => ?_)
      obtain ⟨g9, h⟩ := z_guard h
      refine z_if_eq (pc := 70) (tgt := 83) X.1 dX5_first_70 (by decide) g9 h (fun c12 h => ?_) (fun c12 h => ?_)
      · refine z_iinc (pc := 83) (i := 3) X.1 [(3, .int (iO (x3 + 1))), (0, .ref (ad 0)), (1, .int (iO x1)), (2, .int (iO x2))] hl 3 rfl rfl (by decide) rfl dX5_first_83 (fun ls hl => ?_)
        refine z_goto (pc := 86) (tgt := 55) X.1 dX5_first_86 (by decide) ?_
        exact ih x1 x2 (x3 + 1) μ h _ _ ls hW (lv_sub hl [1, 2, 3, 0] rfl)
      · refine z_iload_n (pc := 73) X.1 hl 1 rfl rfl dX5_first_73 ?_
        obtain ⟨g10, h⟩ := z_guard h
        refine z_if_ne (pc := 74) (tgt := 81) X.1 dX5_first_74 (by decide) g10 h (fun c11 h => ?_) (fun c11 h => ?_)
        · refine z_iload_n (pc := 81) X.1 hl 2 rfl rfl dX5_first_81 ?_
          exact z_iret (pc := 82) X hW (z_p1 h) (z_p2 h) dX5_first_82
        · refine z_iload_n (pc := 77) X.1 hl 3 rfl rfl dX5_first_77 ?_
          refine z_goto (pc := 78) (tgt := 82) X.1 dX5_first_78 (by decide) ?_
          exact z_iret (pc := 82) X hW (z_p1 h) (z_p2 h) dX5_first_82
theorem CL5_first_29 (X : zX p s m args meth c cX5_first RX5 wsX5_first 4 D cy ad (some .int) A) (N : Nat) : ∀ (k : Nat) (x1 : Int) (x2 : Int) (μ : mm), L5_first_29 N k x1 x2 μ = some res → ∀ (H : Heap) (locs : List Loc) (ls : Array Slot), zW D cy ad A s.heap μ H locs → lv_has ls 4 [(0, .ref (ad 0)), (1, .int (iO x1)), (2, .int (iO x2))] → W p l e (rmD 5) s m args below meth c H locs 0 0 (MQ below (zQi D cy ad A res.1 res.2) args s 0 0 A) (F0 m 29 ls []) := by
  intro k
  induction k with
  | zero =>
    intro x1 x2 μ h H locs ls hW hl
    exact absurd h (by rw [L5_first_29]; exact fun z => by cases z)
  | succ k ih =>
    intro x1 x2 μ h H locs ls hW hl
    rw [L5_first_29] at h
    refine z_iload_n (pc := 29) X.1 hl 2 rfl rfl dX5_first_29 ?_
    refine z_bipush (pc := 30) X.1 dX5_first_30 (by decide) ?_
    obtain ⟨g4, h⟩ := z_guard h
    refine z_icmp_gt (pc := 32) (tgt := 95) X.1 dX5_first_32 (by decide) ⟨g4, (by decide)⟩ h (fun c14 h => ?_) (fun c14 h => ?_)
    · refine z_bipush (pc := 95) X.1 dX5_first_95 (by decide) ?_
      exact z_iret (pc := 97) X hW (z_p1 h) (z_p2 h) dX5_first_97
    · refine z_aload_n (pc := 35) X.1 hl 0 rfl rfl dX5_first_35 ?_
      refine z_get1 (pc := 36) X.1 hW rfl iX5_first_1 1 (by decide) rfl (by decide +kernel) dX5_first_36 ?_
      refine z_aload_n (pc := 39) X.1 hl 0 rfl rfl dX5_first_39 ?_
      refine z_get1 (pc := 40) X.1 hW rfl iX5_first_1 3 (by decide) rfl (by decide +kernel) dX5_first_40 ?_
      obtain ⟨q5, eq5, h⟩ := z_bind h
      refine z_callSV (pc := 43) (n := 2) (As := [.ref (ad 2), .ref (ad 4)]) (rest := []) X hW hl (C5_copies l N 2 4 (by decide) (by decide) μ eq5) gX5_first_X5_copies rfl (by decide +kernel) rfl (by decide) rfl (Nat.le_of_ble_eq_true rfl) dX5_first_43 (fun H locs hW => ?_)
      refine z_aload_n (pc := 46) X.1 hl 0 rfl rfl dX5_first_46 ?_
      refine z_get1 (pc := 47) X.1 hW rfl iX5_first_1 1 (by decide) rfl (by decide +kernel) dX5_first_47 ?_
      obtain ⟨q6, eq6, h⟩ := z_bind h
      refine z_callSV (pc := 50) (n := 1) (As := [.ref (ad 2)]) (rest := []) X hW hl (C5_day l N 2 (by decide) q5 eq6) gX5_first_X5_day rfl (by decide +kernel) rfl (by decide) rfl (Nat.le_of_ble_eq_true rfl) dX5_first_50 (fun H locs hW => ?_)
      refine z_iconst (pc := 53) X.1 dX5_first_53 ?_
      refine z_istore_n (pc := 54) (i := 3) X.1 [(3, .int (iO 0)), (0, .ref (ad 0)), (1, .int (iO x1)), (2, .int (iO x2))] hl rfl rfl (by decide) rfl dX5_first_54 (fun ls hl => ?_)
      exact CL5_first_55 X N (L5_first_29 N k) ih N x1 x2 0 q6 h _ _ ls hW (lv_sub hl [1, 2, 3, 0] rfl)
end
theorem C5_first (l : Launch) {D : va_G} {cy : ClassId × ClassId} {ad : Nat → Nat} (N : Nat) (a0 : Int) (μ : mm) {res : (Int × mm)} (h : M5_first N a0 μ = some res) : zI l yX5_first wsX5_first 5 D cy ad [.ref (ad 0), .int (iO a0)] μ res.1 res.2 := by
  refine zI.of RX5 rfl (by decide) rfl (Nat.le_of_ble_eq_true rfl) ?_
  intro p e s m args below meth c A X hW ls hl
  have hl : lv_has ls 4 [(0, .ref (ad 0)), (1, .int (iO a0))] := hl
  unfold M5_first at h
  refine z_iload_n (pc := 0) X.1 hl 1 rfl rfl dX5_first_0 ?_
  refine z_iconst (pc := 1) X.1 dX5_first_1 ?_
  refine z_iconst (pc := 2) X.1 dX5_first_2 ?_
  obtain ⟨q1, eq1, h⟩ := z_bind h
  refine z_callSI (pc := 3) (n := 3) (As := [.int (iO a0), .int (iO 0), .int (iO 1)]) (rest := []) X hW hl (C5_isIn l N a0 0 1 μ eq1) gX5_first_X5_isIn rfl (by decide +kernel) rfl (by decide) rfl (Nat.le_of_ble_eq_true rfl) dX5_first_3 (fun H locs hW => ?_)
  obtain ⟨g2, h⟩ := z_guard h
  refine z_if_ne (pc := 6) (tgt := 16) X.1 dX5_first_6 (by decide) g2 h (fun c16 h => ?_) (fun c16 h => ?_)
  · refine z_aload_n (pc := 16) X.1 hl 0 rfl rfl dX5_first_16 ?_
    refine z_get1 (pc := 17) X.1 hW rfl iX5_first_1 0 (by decide) rfl (by decide +kernel) dX5_first_17 ?_
    refine z_aload_n (pc := 20) X.1 hl 0 rfl rfl dX5_first_20 ?_
    refine z_get1 (pc := 21) X.1 hW rfl iX5_first_1 1 (by decide) rfl (by decide +kernel) dX5_first_21 ?_
    obtain ⟨q3, eq3, h⟩ := z_bind h
    refine z_callSV (pc := 24) (n := 2) (As := [.ref (ad 1), .ref (ad 2)]) (rest := []) X hW hl (C5_copies l N 1 2 (by decide) (by decide) μ eq3) gX5_first_X5_copies rfl (by decide +kernel) rfl (by decide) rfl (Nat.le_of_ble_eq_true rfl) dX5_first_24 (fun H locs hW => ?_)
    refine z_iconst (pc := 27) X.1 dX5_first_27 ?_
    refine z_istore_n (pc := 28) (i := 2) X.1 [(2, .int (iO 1)), (0, .ref (ad 0)), (1, .int (iO a0))] hl rfl rfl (by decide) rfl dX5_first_28 (fun ls hl => ?_)
    exact CL5_first_29 X N N a0 1 q3 h _ _ ls hW (lv_sub hl [1, 2, 0] rfl)
  · refine z_aload_n (pc := 9) X.1 hl 0 rfl rfl dX5_first_9 ?_
    refine z_bipush (pc := 10) X.1 dX5_first_10 (by decide) ?_
    obtain ⟨q15, eq15, h⟩ := z_bind h
    refine z_callV1I (pc := 12) (n := 1) (As := [.int (iO (-2))]) (rest := []) X hW hl rfl (C5_no l N (-2) μ eq15) gX5_first_X5_no rfl (by decide +kernel) rfl (by decide) rfl (Nat.le_of_ble_eq_true rfl) dX5_first_12 (fun H locs hW => ?_)
    exact z_iret (pc := 15) X hW (z_p1 h) (z_p2 h) dX5_first_15
-- X5_isThroughOn
theorem iX5_isThroughOn_1 : ∀ w ∈ wsX50, w ∈ wsX5_isThroughOn := by decide +kernel
theorem C5_isThroughOn (l : Launch) {D : va_G} {cy : ClassId × ClassId} {ad : Nat → Nat} (N : Nat) (a0 : Int) (μ0 : mm) {res : Int} (h : M5_isThroughOn N a0 μ0 = some res) : zI l yX5_isThroughOn wsX5_isThroughOn 2 D cy ad [.ref (ad 0), .int (iO a0)] μ0 res μ0 := by
  refine zI.of RX5 rfl (by decide) rfl (Nat.le_of_ble_eq_true rfl) ?_
  intro p e s m args below meth c A X hW ls hl
  have hl : lv_has ls 2 [(0, .ref (ad 0)), (1, .int (iO a0))] := hl
  unfold M5_isThroughOn at h
  refine z_aload_n (pc := 0) X.1 hl 0 rfl rfl dX5_isThroughOn_0 ?_
  refine z_get1 (pc := 1) X.1 hW rfl iX5_isThroughOn_1 3 (by decide) rfl (by decide +kernel) dX5_isThroughOn_1 ?_
  refine z_iload_n (pc := 4) X.1 hl 1 rfl rfl dX5_isThroughOn_4 ?_
  refine z_iconst (pc := 5) X.1 dX5_isThroughOn_5 ?_
  refine z_callSI (pc := 6) (n := 2) (As := [.int (iO a0), .int (iO 3)]) (rest := [.ref (ad 4)]) X hW hl (C5_of l N a0 3 μ0) gX5_isThroughOn_X5_of rfl (by decide +kernel) rfl (by decide) rfl (Nat.le_of_ble_eq_true rfl) dX5_isThroughOn_6 (fun H locs hW => ?_)
  obtain ⟨g1, h⟩ := z_guard h
  refine z_iald (pc := 9) X.1 hW rfl ⟨g1.1, g1.2⟩ dX5_isThroughOn_9 ?_
  refine z_iconst (pc := 10) X.1 dX5_isThroughOn_10 ?_
  obtain ⟨g2, h⟩ := z_guard h
  refine z_icmp_ne (pc := 11) (tgt := 39) X.1 dX5_isThroughOn_11 (by decide) ⟨g2, (by decide)⟩ h (fun c7 h => ?_) (fun c7 h => ?_)
  · refine z_iconst (pc := 39) X.1 dX5_isThroughOn_39 ?_
    exact z_zret (pc := 40) X hW (by decide) (Option.some.inj h) rfl dX5_isThroughOn_40
  · refine z_aload_n (pc := 14) X.1 hl 0 rfl rfl dX5_isThroughOn_14 ?_
    refine z_get1 (pc := 15) X.1 hW rfl iX5_isThroughOn_1 3 (by decide) rfl (by decide +kernel) dX5_isThroughOn_15 ?_
    refine z_iload_n (pc := 18) X.1 hl 1 rfl rfl dX5_isThroughOn_18 ?_
    refine z_iconst (pc := 19) X.1 dX5_isThroughOn_19 ?_
    refine z_callSI (pc := 20) (n := 2) (As := [.int (iO a0), .int (iO 2)]) (rest := [.ref (ad 4)]) X hW hl (C5_of l N a0 2 μ0) gX5_isThroughOn_X5_of rfl (by decide +kernel) rfl (by decide) rfl (Nat.le_of_ble_eq_true rfl) dX5_isThroughOn_20 (fun H locs hW => ?_)
    obtain ⟨g3, h⟩ := z_guard h
    refine z_iald (pc := 23) X.1 hW rfl ⟨g3.1, g3.2⟩ dX5_isThroughOn_23 ?_
    refine z_aload_n (pc := 24) X.1 hl 0 rfl rfl dX5_isThroughOn_24 ?_
    refine z_get1 (pc := 25) X.1 hW rfl iX5_isThroughOn_1 3 (by decide) rfl (by decide +kernel) dX5_isThroughOn_25 ?_
    refine z_iload_n (pc := 28) X.1 hl 1 rfl rfl dX5_isThroughOn_28 ?_
    obtain ⟨q4, eq4, h⟩ := z_bind h
    refine z_callSI (pc := 29) (n := 2) (As := [.ref (ad 4), .int (iO a0)]) (rest := [.int (iO (μ0 4 (((4 + (6 * a0)) + 2)).toNat))]) X hW hl (C5_needs l N 4 a0 (by decide) μ0 eq4) gX5_isThroughOn_X5_needs rfl (by decide +kernel) rfl (by decide) rfl (Nat.le_of_ble_eq_true rfl) dX5_isThroughOn_29 (fun H locs hW => ?_)
    obtain ⟨g5, h⟩ := z_guard h
    refine z_icmp_lt (pc := 32) (tgt := 39) X.1 dX5_isThroughOn_32 (by decide) ⟨g5.1, g5.2⟩ h (fun c6 h => ?_) (fun c6 h => ?_)
    · refine z_iconst (pc := 39) X.1 dX5_isThroughOn_39 ?_
      exact z_zret (pc := 40) X hW (by decide) (Option.some.inj h) rfl dX5_isThroughOn_40
    · refine z_iconst (pc := 35) X.1 dX5_isThroughOn_35 ?_
      refine z_goto (pc := 36) (tgt := 40) X.1 dX5_isThroughOn_36 (by decide) ?_
      exact z_zret (pc := 40) X hW (by decide) (Option.some.inj h) rfl dX5_isThroughOn_40
-- X5_lasts
theorem iX5_lasts_1 : ∀ w ∈ wsX50, w ∈ wsX5_lasts := by decide +kernel
section
variable {p : Program} {l : Launch} {e : Env} {s : State} {m : MethodId} {args : Array Value} {below : List Frame} {meth : Method} {c : Code} {D : va_G} {cy : ClassId × ClassId} {ad : Nat → Nat} {A : Nat → Prop} {res : (Int × mm)}
theorem CJ5_lasts_77 (X : zX p s m args meth c cX5_lasts RX5 wsX5_lasts 4 D cy ad (some .int) A) (N : Nat) (rec29 : Int → Int → Int → mm → Option (Int × mm)) (hrec29 : ∀ (x1 : Int) (x2 : Int) (x3 : Int) (μ : mm), rec29 x1 x2 x3 μ = some res → ∀ (H : Heap) (locs : List Loc) (ls : Array Slot), zW D cy ad A s.heap μ H locs → lv_has ls 4 [(0, .ref (ad 0)), (1, .int (iO x1)), (2, .int (iO x2)), (3, .int (iO x3))] → W p l e (rmD 5) s m args below meth c H locs 0 0 (MQ below (zQi D cy ad A res.1 res.2) args s 0 0 A) (F0 m 29 ls [])) : ∀ (x1 : Int) (x3 : Int) (y0 : Int) (y1 : Int) (μ : mm), J5_lasts_77 N rec29 x1 x3 y0 y1 μ = some res → ∀ (H : Heap) (locs : List Loc) (ls : Array Slot), zW D cy ad A s.heap μ H locs → lv_has ls 4 [(0, .ref (ad 0)), (1, .int (iO x1)), (3, .int (iO x3))] → W p l e (rmD 5) s m args below meth c H locs 0 0 (MQ below (zQi D cy ad A res.1 res.2) args s 0 0 A) (F0 m 77 ls [.int (iO y0), .int (iO y1)]) := by
  intro x1 x3 y0 y1 μ h H locs ls hW hl
  rw [J5_lasts_77] at h
  refine z_iadd (pc := 77) X.1 dX5_lasts_77 ?_
  obtain ⟨w11, ew11, h⟩ := z_bnd h
  refine z_istore_n (pc := 78) (i := 2) X.1 [(2, .int (iO w11)), (0, .ref (ad 0)), (1, .int (iO x1)), (3, .int (iO x3))] hl ew11 rfl (by decide) rfl dX5_lasts_78 (fun ls hl => ?_)
  refine z_iinc (pc := 79) (i := 3) X.1 [(3, .int (iO (x3 + 1))), (2, .int (iO w11)), (0, .ref (ad 0)), (1, .int (iO x1))] hl 3 rfl rfl (by decide) rfl dX5_lasts_79 (fun ls hl => ?_)
  refine z_goto (pc := 82) (tgt := 29) X.1 dX5_lasts_82 (by decide) ?_
  exact hrec29 x1 w11 (x3 + 1) μ h _ _ ls hW (lv_sub hl [2, 3, 1, 0] rfl)
theorem CL5_lasts_29 (X : zX p s m args meth c cX5_lasts RX5 wsX5_lasts 4 D cy ad (some .int) A) (N : Nat) : ∀ (k : Nat) (x1 : Int) (x2 : Int) (x3 : Int) (μ : mm), L5_lasts_29 N k x1 x2 x3 μ = some res → ∀ (H : Heap) (locs : List Loc) (ls : Array Slot), zW D cy ad A s.heap μ H locs → lv_has ls 4 [(0, .ref (ad 0)), (1, .int (iO x1)), (2, .int (iO x2)), (3, .int (iO x3))] → W p l e (rmD 5) s m args below meth c H locs 0 0 (MQ below (zQi D cy ad A res.1 res.2) args s 0 0 A) (F0 m 29 ls []) := by
  intro k
  induction k with
  | zero =>
    intro x1 x2 x3 μ h H locs ls hW hl
    exact absurd h (by rw [L5_lasts_29]; exact fun z => by cases z)
  | succ k ih =>
    intro x1 x2 x3 μ h H locs ls hW hl
    rw [L5_lasts_29] at h
    refine z_iload_n (pc := 29) X.1 hl 3 rfl rfl dX5_lasts_29 ?_
    refine z_bipush (pc := 30) X.1 dX5_lasts_30 (by decide) ?_
    obtain ⟨g4, h⟩ := z_guard h
    refine z_icmp_gt (pc := 32) (tgt := 85) X.1 dX5_lasts_32 (by decide) ⟨g4, (by decide)⟩ h (fun c14 h => ?_) (fun c14 h => ?_)
    · refine z_iload_n (pc := 85) X.1 hl 2 rfl rfl dX5_lasts_85 ?_
      exact z_iret (pc := 86) X hW (z_p1 h) (z_p2 h) dX5_lasts_86
    · refine z_aload_n (pc := 35) X.1 hl 0 rfl rfl dX5_lasts_35 ?_
      refine z_get1 (pc := 36) X.1 hW rfl iX5_lasts_1 1 (by decide) rfl (by decide +kernel) dX5_lasts_36 ?_
      refine z_aload_n (pc := 39) X.1 hl 0 rfl rfl dX5_lasts_39 ?_
      refine z_get1 (pc := 40) X.1 hW rfl iX5_lasts_1 3 (by decide) rfl (by decide +kernel) dX5_lasts_40 ?_
      obtain ⟨q5, eq5, h⟩ := z_bind h
      refine z_callSV (pc := 43) (n := 2) (As := [.ref (ad 2), .ref (ad 4)]) (rest := []) X hW hl (C5_copies l N 2 4 (by decide) (by decide) μ eq5) gX5_lasts_X5_copies rfl (by decide +kernel) rfl (by decide) rfl (Nat.le_of_ble_eq_true rfl) dX5_lasts_43 (fun H locs hW => ?_)
      refine z_aload_n (pc := 46) X.1 hl 0 rfl rfl dX5_lasts_46 ?_
      refine z_get1 (pc := 47) X.1 hW rfl iX5_lasts_1 1 (by decide) rfl (by decide +kernel) dX5_lasts_47 ?_
      obtain ⟨q6, eq6, h⟩ := z_bind h
      refine z_callSV (pc := 50) (n := 1) (As := [.ref (ad 2)]) (rest := []) X hW hl (C5_day l N 2 (by decide) q5 eq6) gX5_lasts_X5_day rfl (by decide +kernel) rfl (by decide) rfl (Nat.le_of_ble_eq_true rfl) dX5_lasts_50 (fun H locs hW => ?_)
      refine z_aload_n (pc := 53) X.1 hl 0 rfl rfl dX5_lasts_53 ?_
      refine z_iload_n (pc := 54) X.1 hl 1 rfl rfl dX5_lasts_54 ?_
      obtain ⟨q7, eq7, h⟩ := z_bind h
      refine z_callV1I (pc := 55) (n := 1) (As := [.int (iO x1)]) (rest := []) X hW hl rfl (C5_isShortOn l N x1 q6 eq7) gX5_lasts_X5_isShortOn rfl (by decide +kernel) rfl (by decide) rfl (Nat.le_of_ble_eq_true rfl) dX5_lasts_55 (fun H locs hW => ?_)
      obtain ⟨g8, h⟩ := z_guard h
      refine z_if_eq (pc := 58) (tgt := 63) X.1 dX5_lasts_58 (by decide) g8 h (fun c13 h => ?_) (fun c13 h => ?_)
      · refine z_iload_n (pc := 63) X.1 hl 2 rfl rfl dX5_lasts_63 ?_
        refine z_aload_n (pc := 64) X.1 hl 0 rfl rfl dX5_lasts_64 ?_
        refine z_iload_n (pc := 65) X.1 hl 1 rfl rfl dX5_lasts_65 ?_
        obtain ⟨q9, eq9, h⟩ := z_bind h
        refine z_callV1I (pc := 66) (n := 1) (As := [.int (iO x1)]) (rest := [.int (iO x2)]) X hW hl rfl (C5_isThroughOn l N x1 q6 eq9) gX5_lasts_X5_isThroughOn rfl (by decide +kernel) rfl (by decide) rfl (Nat.le_of_ble_eq_true rfl) dX5_lasts_66 (fun H locs hW => ?_)
        obtain ⟨g10, h⟩ := z_guard h
        refine z_if_eq (pc := 69) (tgt := 76) X.1 dX5_lasts_69 (by decide) g10 h (fun c12 h => ?_) (fun c12 h => ?_)
        · refine z_iconst (pc := 76) X.1 dX5_lasts_76 ?_
          exact CJ5_lasts_77 X N (L5_lasts_29 N k) ih x1 x3 0 x2 q6 h _ _ ls hW (lv_sub hl [0, 1, 3] rfl)
        · refine z_iconst (pc := 72) X.1 dX5_lasts_72 ?_
          refine z_goto (pc := 73) (tgt := 77) X.1 dX5_lasts_73 (by decide) ?_
          exact CJ5_lasts_77 X N (L5_lasts_29 N k) ih x1 x3 1 x2 q6 h _ _ ls hW (lv_sub hl [0, 1, 3] rfl)
      · refine z_iload_n (pc := 61) X.1 hl 2 rfl rfl dX5_lasts_61 ?_
        exact z_iret (pc := 62) X hW (z_p1 h) (z_p2 h) dX5_lasts_62
end
theorem C5_lasts (l : Launch) {D : va_G} {cy : ClassId × ClassId} {ad : Nat → Nat} (N : Nat) (a0 : Int) (μ : mm) {res : (Int × mm)} (h : M5_lasts N a0 μ = some res) : zI l yX5_lasts wsX5_lasts 5 D cy ad [.ref (ad 0), .int (iO a0)] μ res.1 res.2 := by
  refine zI.of RX5 rfl (by decide) rfl (Nat.le_of_ble_eq_true rfl) ?_
  intro p e s m args below meth c A X hW ls hl
  have hl : lv_has ls 4 [(0, .ref (ad 0)), (1, .int (iO a0))] := hl
  unfold M5_lasts at h
  refine z_aload_n (pc := 0) X.1 hl 0 rfl rfl dX5_lasts_0 ?_
  refine z_iload_n (pc := 1) X.1 hl 1 rfl rfl dX5_lasts_1 ?_
  obtain ⟨q1, eq1, h⟩ := z_bind h
  refine z_callV1I (pc := 2) (n := 1) (As := [.int (iO a0)]) (rest := []) X hW hl rfl (C5_isOne l N a0 μ eq1) gX5_lasts_X5_isOne rfl (by decide +kernel) rfl (by decide) rfl (Nat.le_of_ble_eq_true rfl) dX5_lasts_2 (fun H locs hW => ?_)
  obtain ⟨g2, h⟩ := z_guard h
  refine z_if_ne (pc := 5) (tgt := 14) X.1 dX5_lasts_5 (by decide) g2 h (fun c16 h => ?_) (fun c16 h => ?_)
  · refine z_aload_n (pc := 14) X.1 hl 0 rfl rfl dX5_lasts_14 ?_
    refine z_get1 (pc := 15) X.1 hW rfl iX5_lasts_1 0 (by decide) rfl (by decide +kernel) dX5_lasts_15 ?_
    refine z_aload_n (pc := 18) X.1 hl 0 rfl rfl dX5_lasts_18 ?_
    refine z_get1 (pc := 19) X.1 hW rfl iX5_lasts_1 1 (by decide) rfl (by decide +kernel) dX5_lasts_19 ?_
    obtain ⟨q3, eq3, h⟩ := z_bind h
    refine z_callSV (pc := 22) (n := 2) (As := [.ref (ad 1), .ref (ad 2)]) (rest := []) X hW hl (C5_copies l N 1 2 (by decide) (by decide) μ eq3) gX5_lasts_X5_copies rfl (by decide +kernel) rfl (by decide) rfl (Nat.le_of_ble_eq_true rfl) dX5_lasts_22 (fun H locs hW => ?_)
    refine z_iconst (pc := 25) X.1 dX5_lasts_25 ?_
    refine z_istore_n (pc := 26) (i := 2) X.1 [(2, .int (iO 0)), (0, .ref (ad 0)), (1, .int (iO a0))] hl rfl rfl (by decide) rfl dX5_lasts_26 (fun ls hl => ?_)
    refine z_iconst (pc := 27) X.1 dX5_lasts_27 ?_
    refine z_istore_n (pc := 28) (i := 3) X.1 [(3, .int (iO 1)), (2, .int (iO 0)), (0, .ref (ad 0)), (1, .int (iO a0))] hl rfl rfl (by decide) rfl dX5_lasts_28 (fun ls hl => ?_)
    exact CL5_lasts_29 X N N a0 0 1 q3 h _ _ ls hW (lv_sub hl [2, 3, 1, 0] rfl)
  · refine z_aload_n (pc := 8) X.1 hl 0 rfl rfl dX5_lasts_8 ?_
    refine z_iconst (pc := 9) X.1 dX5_lasts_9 ?_
    obtain ⟨q15, eq15, h⟩ := z_bind h
    refine z_callV1I (pc := 10) (n := 1) (As := [.int (iO (-1))]) (rest := []) X hW hl rfl (C5_no l N (-1) μ eq15) gX5_lasts_X5_no rfl (by decide +kernel) rfl (by decide) rfl (Nat.le_of_ble_eq_true rfl) dX5_lasts_10 (fun H locs hW => ?_)
    exact z_iret (pc := 13) X hW (z_p1 h) (z_p2 h) dX5_lasts_13
-- X5_lacks
theorem iX5_lacks_1 : ∀ w ∈ wsX50, w ∈ wsX5_lacks := by decide +kernel
section
variable {p : Program} {l : Launch} {e : Env} {s : State} {m : MethodId} {args : Array Value} {below : List Frame} {meth : Method} {c : Code} {D : va_G} {cy : ClassId × ClassId} {ad : Nat → Nat} {A : Nat → Prop} {res : Int} {μ0 : mm}
theorem CL5_lacks_4 (X : zX p s m args meth c cX5_lacks RX5 wsX5_lacks 3 D cy ad (some .int) A) (N : Nat) : ∀ (k : Nat) (x1 : Int) (x2 : Int) (μ : mm) (_ : μ = μ0), L5_lacks_4 N k x1 x2 μ = some res → ∀ (H : Heap) (locs : List Loc) (ls : Array Slot), zW D cy ad A s.heap μ H locs → lv_has ls 3 [(0, .ref (ad 0)), (1, .int (iO x1)), (2, .int (iO x2))] → W p l e (rmD 3) s m args below meth c H locs 0 0 (MQ below (zQi D cy ad A res μ0) args s 0 0 A) (F0 m 4 ls []) := by
  intro k
  induction k with
  | zero =>
    intro x1 x2 μ em h H locs ls hW hl
    exact absurd h (by rw [L5_lacks_4]; exact fun z => by cases z)
  | succ k ih =>
    intro x1 x2 μ em h H locs ls hW hl
    rw [L5_lacks_4] at h
    refine z_iload_n (pc := 4) X.1 hl 2 rfl rfl dX5_lacks_4 ?_
    refine z_aload_n (pc := 5) X.1 hl 0 rfl rfl dX5_lacks_5 ?_
    refine z_get1 (pc := 6) X.1 hW rfl iX5_lacks_1 0 (by decide) rfl (by decide +kernel) dX5_lacks_6 ?_
    refine z_iconst (pc := 9) X.1 dX5_lacks_9 ?_
    refine z_iald (pc := 10) X.1 hW rfl ⟨(by decide), (by decide)⟩ dX5_lacks_10 ?_
    obtain ⟨g1, h⟩ := z_guard h
    refine z_icmp_ge (pc := 11) (tgt := 31) X.1 dX5_lacks_11 (by decide) ⟨g1.1, g1.2⟩ h (fun c4 h => ?_) (fun c4 h => ?_)
    · refine z_iload_n (pc := 31) X.1 hl 1 rfl rfl dX5_lacks_31 ?_
      exact z_iret (pc := 32) X hW (Option.some.inj h) em dX5_lacks_32
    · refine z_iload_n (pc := 14) X.1 hl 1 rfl rfl dX5_lacks_14 ?_
      refine z_aload_n (pc := 15) X.1 hl 0 rfl rfl dX5_lacks_15 ?_
      refine z_get1 (pc := 16) X.1 hW rfl iX5_lacks_1 0 (by decide) rfl (by decide +kernel) dX5_lacks_16 ?_
      refine z_iload_n (pc := 19) X.1 hl 2 rfl rfl dX5_lacks_19 ?_
      obtain ⟨q2, eq2, h⟩ := z_bind h
      refine z_callSI (pc := 20) (n := 2) (As := [.ref (ad 1), .int (iO x2)]) (rest := [.int (iO x1)]) X hW hl (C5_lacksIn l N 1 x2 (by decide) μ eq2) gX5_lacks_X5_lacksIn rfl (by decide +kernel) rfl (by decide) rfl (Nat.le_of_ble_eq_true rfl) dX5_lacks_20 (fun H locs hW => ?_)
      refine z_iadd (pc := 23) X.1 dX5_lacks_23 ?_
      obtain ⟨w3, ew3, h⟩ := z_bnd h
      refine z_istore_n (pc := 24) (i := 1) X.1 [(1, .int (iO w3)), (0, .ref (ad 0)), (2, .int (iO x2))] hl ew3 rfl (by decide) rfl dX5_lacks_24 (fun ls hl => ?_)
      refine z_iinc (pc := 25) (i := 2) X.1 [(2, .int (iO (x2 + 1))), (1, .int (iO w3)), (0, .ref (ad 0))] hl 2 rfl rfl (by decide) rfl dX5_lacks_25 (fun ls hl => ?_)
      refine z_goto (pc := 28) (tgt := 4) X.1 dX5_lacks_28 (by decide) ?_
      exact ih w3 (x2 + 1) μ em h _ _ ls hW (lv_sub hl [2, 1, 0] rfl)
end
theorem C5_lacks (l : Launch) {D : va_G} {cy : ClassId × ClassId} {ad : Nat → Nat} (N : Nat)  (μ0 : mm) {res : Int} (h : M5_lacks N μ0 = some res) : zI l yX5_lacks wsX5_lacks 3 D cy ad [.ref (ad 0)] μ0 res μ0 := by
  refine zI.of RX5 rfl (by decide) rfl (Nat.le_of_ble_eq_true rfl) ?_
  intro p e s m args below meth c A X hW ls hl
  have hl : lv_has ls 3 [(0, .ref (ad 0))] := hl
  unfold M5_lacks at h
  refine z_iconst (pc := 0) X.1 dX5_lacks_0 ?_
  refine z_istore_n (pc := 1) (i := 1) X.1 [(1, .int (iO 0)), (0, .ref (ad 0))] hl rfl rfl (by decide) rfl dX5_lacks_1 (fun ls hl => ?_)
  refine z_iconst (pc := 2) X.1 dX5_lacks_2 ?_
  refine z_istore_n (pc := 3) (i := 2) X.1 [(2, .int (iO 0)), (1, .int (iO 0)), (0, .ref (ad 0))] hl rfl rfl (by decide) rfl dX5_lacks_3 (fun ls hl => ?_)
  exact CL5_lacks_4 X N N 0 0 μ0 rfl h _ _ ls hW (lv_sub hl [2, 1, 0] rfl)
-- X5_next
theorem iX5_next_1 : ∀ w ∈ wsX50, w ∈ wsX5_next := by decide +kernel
section
variable {p : Program} {l : Launch} {e : Env} {s : State} {m : MethodId} {args : Array Value} {below : List Frame} {meth : Method} {c : Code} {D : va_G} {cy : ClassId × ClassId} {ad : Nat → Nat} {A : Nat → Prop} {res : (Int × mm)}
theorem CJ5_next_73 (X : zX p s m args meth c cX5_next RX5 wsX5_next 4 D cy ad (some .int) A) (N : Nat) (rec21 : Int → Int → Int → mm → Option (Int × mm)) (hrec21 : ∀ (x1 : Int) (x2 : Int) (x3 : Int) (μ : mm), rec21 x1 x2 x3 μ = some res → ∀ (H : Heap) (locs : List Loc) (ls : Array Slot), zW D cy ad A s.heap μ H locs → lv_has ls 4 [(0, .ref (ad 0)), (1, .int (iO x1)), (2, .int (iO x2)), (3, .int (iO x3))] → W p l e (rmD 1) s m args below meth c H locs 0 0 (MQ below (zQi D cy ad A res.1 res.2) args s 0 0 A) (F0 m 21 ls [])) : ∀ (x1 : Int) (x2 : Int) (x3 : Int) (μ : mm), J5_next_73 N rec21 x1 x2 x3 μ = some res → ∀ (H : Heap) (locs : List Loc) (ls : Array Slot), zW D cy ad A s.heap μ H locs → lv_has ls 4 [(0, .ref (ad 0)), (1, .int (iO x1)), (2, .int (iO x2)), (3, .int (iO x3))] → W p l e (rmD 1) s m args below meth c H locs 0 0 (MQ below (zQi D cy ad A res.1 res.2) args s 0 0 A) (F0 m 73 ls []) := by
  intro x1 x2 x3 μ h H locs ls hW hl
  rw [J5_next_73] at h
  refine z_iinc (pc := 73) (i := 3) X.1 [(3, .int (iO (x3 + 1))), (0, .ref (ad 0)), (1, .int (iO x1)), (2, .int (iO x2))] hl 3 rfl rfl (by decide) rfl dX5_next_73 (fun ls hl => ?_)
  refine z_goto (pc := 76) (tgt := 21) X.1 dX5_next_76 (by decide) ?_
  exact hrec21 x1 x2 (x3 + 1) μ h _ _ ls hW (lv_sub hl [1, 2, 3, 0] rfl)
theorem CJ5_next_71 (X : zX p s m args meth c cX5_next RX5 wsX5_next 4 D cy ad (some .int) A) (N : Nat) (rec21 : Int → Int → Int → mm → Option (Int × mm)) (hrec21 : ∀ (x1 : Int) (x2 : Int) (x3 : Int) (μ : mm), rec21 x1 x2 x3 μ = some res → ∀ (H : Heap) (locs : List Loc) (ls : Array Slot), zW D cy ad A s.heap μ H locs → lv_has ls 4 [(0, .ref (ad 0)), (1, .int (iO x1)), (2, .int (iO x2)), (3, .int (iO x3))] → W p l e (rmD 1) s m args below meth c H locs 0 0 (MQ below (zQi D cy ad A res.1 res.2) args s 0 0 A) (F0 m 21 ls [])) : ∀ (x1 : Int) (x3 : Int) (μ : mm), J5_next_71 N rec21 x1 x3 μ = some res → ∀ (H : Heap) (locs : List Loc) (ls : Array Slot), zW D cy ad A s.heap μ H locs → lv_has ls 4 [(0, .ref (ad 0)), (1, .int (iO x1)), (3, .int (iO x3))] → W p l e (rmD 1) s m args below meth c H locs 0 0 (MQ below (zQi D cy ad A res.1 res.2) args s 0 0 A) (F0 m 71 ls []) := by
  intro x1 x3 μ h H locs ls hW hl
  rw [J5_next_71] at h
  refine z_iload_n (pc := 71) X.1 hl 2 rfl rfl dX5_next_71 ?_
  refine z_istore_n (pc := 72) (i := 2) X.1 [(2, .int (iO x3)), (0, .ref (ad 0)), (1, .int (iO x1)), (3, .int (iO x3))] hl rfl rfl (by decide) rfl dX5_next_72 (fun ls hl => ?_)
  exact CJ5_next_73 X N rec21 hrec21 x1 x3 x3 μ h _ _ ls hW (lv_sub hl [1, 2, 0, 3] rfl)
theorem CL5_next_21 (X : zX p s m args meth c cX5_next RX5 wsX5_next 4 D cy ad (some .int) A) (N : Nat) : ∀ (k : Nat) (x1 : Int) (x2 : Int) (x3 : Int) (μ : mm), L5_next_21 N k x1 x2 x3 μ = some res → ∀ (H : Heap) (locs : List Loc) (ls : Array Slot), zW D cy ad A s.heap μ H locs → lv_has ls 4 [(0, .ref (ad 0)), (1, .int (iO x1)), (2, .int (iO x2)), (3, .int (iO x3))] → W p l e (rmD 1) s m args below meth c H locs 0 0 (MQ below (zQi D cy ad A res.1 res.2) args s 0 0 A) (F0 m 21 ls []) := by
  intro k
  induction k with
  | zero =>
    intro x1 x2 x3 μ h H locs ls hW hl
    exact absurd h (by rw [L5_next_21]; exact fun z => by cases z)
  | succ k ih =>
    intro x1 x2 x3 μ h H locs ls hW hl
    rw [L5_next_21] at h
    refine z_iload_n (pc := 21) X.1 hl 3 rfl rfl dX5_next_21 ?_
    refine z_aload_n (pc := 22) X.1 hl 0 rfl rfl dX5_next_22 ?_
    refine z_get1 (pc := 23) X.1 hW rfl iX5_next_1 0 (by decide) rfl (by decide +kernel) dX5_next_23 ?_
    refine z_iconst (pc := 26) X.1 dX5_next_26 ?_
    refine z_iald (pc := 27) X.1 hW rfl ⟨(by decide), (by decide)⟩ dX5_next_27 ?_
    obtain ⟨g3, h⟩ := z_guard h
    refine z_icmp_ge (pc := 28) (tgt := 79) X.1 dX5_next_28 (by decide) ⟨g3.1, g3.2⟩ h (fun c18 h => ?_) (fun c18 h => ?_)
    · refine z_iload_n (pc := 79) X.1 hl 2 rfl rfl dX5_next_79 ?_
      obtain ⟨g4, h⟩ := z_guard h
      refine z_if_lt (pc := 80) (tgt := 87) X.1 dX5_next_80 (by decide) g4 h (fun c8 h => ?_) (fun c8 h => ?_)
      · refine z_iload_n (pc := 87) X.1 hl 2 rfl rfl dX5_next_87 ?_
        refine z_goto (pc := 88) (tgt := 101) X.1 dX5_next_88 (by decide) ?_
        exact z_iret (pc := 101) X hW (z_p1 h) (z_p2 h) dX5_next_101
      · refine z_iload_n (pc := 83) X.1 hl 1 rfl rfl dX5_next_83 ?_
        obtain ⟨g5, h⟩ := z_guard h
        refine z_if_ne (pc := 84) (tgt := 91) X.1 dX5_next_84 (by decide) g5 h (fun c7 h => ?_) (fun c7 h => ?_)
        · refine z_aload_n (pc := 91) X.1 hl 0 rfl rfl dX5_next_91 ?_
          refine z_get1 (pc := 92) X.1 hW rfl iX5_next_1 0 (by decide) rfl (by decide +kernel) dX5_next_92 ?_
          refine z_iload_n (pc := 95) X.1 hl 2 rfl rfl dX5_next_95 ?_
          refine z_iconst (pc := 96) X.1 dX5_next_96 ?_
          refine z_callSI (pc := 97) (n := 2) (As := [.int (iO x2), .int (iO 3)]) (rest := [.ref (ad 1)]) X hW hl (C5_of l N x2 3 μ) gX5_next_X5_of rfl (by decide +kernel) rfl (by decide) rfl (Nat.le_of_ble_eq_true rfl) dX5_next_97 (fun H locs hW => ?_)
          obtain ⟨g6, h⟩ := z_guard h
          refine z_iald (pc := 100) X.1 hW rfl ⟨g6.1, g6.2⟩ dX5_next_100 ?_
          exact z_iret (pc := 101) X hW (z_p1 h) (z_p2 h) dX5_next_101
        · refine z_iload_n (pc := 87) X.1 hl 2 rfl rfl dX5_next_87 ?_
          refine z_goto (pc := 88) (tgt := 101) X.1 dX5_next_88 (by decide) ?_
          exact z_iret (pc := 101) X hW (z_p1 h) (z_p2 h) dX5_next_101
    · refine z_aload_n (pc := 31) X.1 hl 0 rfl rfl dX5_next_31 ?_
      refine z_get1 (pc := 32) X.1 hW rfl iX5_next_1 0 (by decide) rfl (by decide +kernel) dX5_next_32 ?_
      refine z_iload_n (pc := 35) X.1 hl 3 rfl rfl dX5_next_35 ?_
      refine z_iconst (pc := 36) X.1 dX5_next_36 ?_
      refine z_callSI (pc := 37) (n := 2) (As := [.int (iO x3), .int (iO 3)]) (rest := [.ref (ad 1)]) X hW hl (C5_of l N x3 3 μ) gX5_next_X5_of rfl (by decide +kernel) rfl (by decide) rfl (Nat.le_of_ble_eq_true rfl) dX5_next_37 (fun H locs hW => ?_)
      obtain ⟨g9, h⟩ := z_guard h
      refine z_iald (pc := 40) X.1 hW rfl ⟨g9.1, g9.2⟩ dX5_next_40 ?_
      obtain ⟨g10, h⟩ := z_guard h
      refine z_if_le (pc := 41) (tgt := 73) X.1 dX5_next_41 (by decide) g10 h (fun c17 h => ?_) (fun c17 h => ?_)
      · exact CJ5_next_73 X N (L5_next_21 N k) ih x1 x2 x3 μ h _ _ ls hW (lv_sub hl [0, 1, 2, 3] rfl)
      · refine z_iload_n (pc := 44) X.1 hl 2 rfl rfl dX5_next_44 ?_
        obtain ⟨g11, h⟩ := z_guard h
        refine z_if_lt (pc := 45) (tgt := 71) X.1 dX5_next_45 (by decide) g11 h (fun c16 h => ?_) (fun c16 h => ?_)
        · exact CJ5_next_71 X N (L5_next_21 N k) ih x1 x3 μ h _ _ ls hW (lv_sub hl [0, 1, 3] rfl)
        · refine z_aload_n (pc := 48) X.1 hl 0 rfl rfl dX5_next_48 ?_
          refine z_get1 (pc := 49) X.1 hW rfl iX5_next_1 0 (by decide) rfl (by decide +kernel) dX5_next_49 ?_
          refine z_iload_n (pc := 52) X.1 hl 3 rfl rfl dX5_next_52 ?_
          refine z_iconst (pc := 53) X.1 dX5_next_53 ?_
          refine z_callSI (pc := 54) (n := 2) (As := [.int (iO x3), .int (iO 3)]) (rest := [.ref (ad 1)]) X hW hl (C5_of l N x3 3 μ) gX5_next_X5_of rfl (by decide +kernel) rfl (by decide) rfl (Nat.le_of_ble_eq_true rfl) dX5_next_54 (fun H locs hW => ?_)
          obtain ⟨g12, h⟩ := z_guard h
          refine z_iald (pc := 57) X.1 hW rfl ⟨g12.1, g12.2⟩ dX5_next_57 ?_
          refine z_aload_n (pc := 58) X.1 hl 0 rfl rfl dX5_next_58 ?_
          refine z_get1 (pc := 59) X.1 hW rfl iX5_next_1 0 (by decide) rfl (by decide +kernel) dX5_next_59 ?_
          refine z_iload_n (pc := 62) X.1 hl 2 rfl rfl dX5_next_62 ?_
          refine z_iconst (pc := 63) X.1 dX5_next_63 ?_
          refine z_callSI (pc := 64) (n := 2) (As := [.int (iO x2), .int (iO 3)]) (rest := [.ref (ad 1), .int (iO (μ 1 (((4 + (6 * x3)) + 3)).toNat))]) X hW hl (C5_of l N x2 3 μ) gX5_next_X5_of rfl (by decide +kernel) rfl (by decide) rfl (Nat.le_of_ble_eq_true rfl) dX5_next_64 (fun H locs hW => ?_)
          obtain ⟨g13, h⟩ := z_guard h
          refine z_iald (pc := 67) X.1 hW rfl ⟨g13.1, g13.2⟩ dX5_next_67 ?_
          obtain ⟨g14, h⟩ := z_guard h
          refine z_icmp_ge (pc := 68) (tgt := 73) X.1 dX5_next_68 (by decide) ⟨g14.1, g14.2⟩ h (fun c15 h => ?_) (fun c15 h => ?_)
          · exact CJ5_next_73 X N (L5_next_21 N k) ih x1 x2 x3 μ h _ _ ls hW (lv_sub hl [0, 1, 2, 3] rfl)
          · exact CJ5_next_71 X N (L5_next_21 N k) ih x1 x3 μ h _ _ ls hW (lv_sub hl [0, 1, 3] rfl)
end
theorem C5_next (l : Launch) {D : va_G} {cy : ClassId × ClassId} {ad : Nat → Nat} (N : Nat) (a0 : Int) (μ : mm) {res : (Int × mm)} (h : M5_next N a0 μ = some res) : zI l yX5_next wsX5_next 1 D cy ad [.ref (ad 0), .int (iO a0)] μ res.1 res.2 := by
  refine zI.of RX5 rfl (by decide) rfl (Nat.le_of_ble_eq_true rfl) ?_
  intro p e s m args below meth c A X hW ls hl
  have hl : lv_has ls 4 [(0, .ref (ad 0)), (1, .int (iO a0))] := hl
  unfold M5_next at h
  refine z_iload_n (pc := 0) X.1 hl 1 rfl rfl dX5_next_0 ?_
  refine z_iconst (pc := 1) X.1 dX5_next_1 ?_
  refine z_iconst (pc := 2) X.1 dX5_next_2 ?_
  obtain ⟨q1, eq1, h⟩ := z_bind h
  refine z_callSI (pc := 3) (n := 3) (As := [.int (iO a0), .int (iO 0), .int (iO 1)]) (rest := []) X hW hl (C5_isIn l N a0 0 1 μ eq1) gX5_next_X5_isIn rfl (by decide +kernel) rfl (by decide) rfl (Nat.le_of_ble_eq_true rfl) dX5_next_3 (fun H locs hW => ?_)
  obtain ⟨g2, h⟩ := z_guard h
  refine z_if_ne (pc := 6) (tgt := 16) X.1 dX5_next_6 (by decide) g2 h (fun c20 h => ?_) (fun c20 h => ?_)
  · refine z_bipush (pc := 16) X.1 dX5_next_16 (by decide) ?_
    refine z_istore_n (pc := 18) (i := 2) X.1 [(2, .int (iO (-9))), (0, .ref (ad 0)), (1, .int (iO a0))] hl rfl rfl (by decide) rfl dX5_next_18 (fun ls hl => ?_)
    refine z_iconst (pc := 19) X.1 dX5_next_19 ?_
    refine z_istore_n (pc := 20) (i := 3) X.1 [(3, .int (iO 0)), (2, .int (iO (-9))), (0, .ref (ad 0)), (1, .int (iO a0))] hl rfl rfl (by decide) rfl dX5_next_20 (fun ls hl => ?_)
    exact CL5_next_21 X N N a0 (-9) 0 μ h _ _ ls hW (lv_sub hl [2, 3, 1, 0] rfl)
  · refine z_aload_n (pc := 9) X.1 hl 0 rfl rfl dX5_next_9 ?_
    refine z_bipush (pc := 10) X.1 dX5_next_10 (by decide) ?_
    obtain ⟨q19, eq19, h⟩ := z_bind h
    refine z_callV1I (pc := 12) (n := 1) (As := [.int (iO (-2))]) (rest := []) X hW hl rfl (C5_no l N (-2) μ eq19) gX5_next_X5_no rfl (by decide +kernel) rfl (by decide) rfl (Nat.le_of_ble_eq_true rfl) dX5_next_12 (fun H locs hW => ?_)
    exact z_iret (pc := 15) X hW (z_p1 h) (z_p2 h) dX5_next_15
-- X5_isShortWithin
theorem iX5_isShortWithin_1 : ∀ w ∈ wsX50, w ∈ wsX5_isShortWithin := by decide +kernel
section
variable {p : Program} {l : Launch} {e : Env} {s : State} {m : MethodId} {args : Array Value} {below : List Frame} {meth : Method} {c : Code} {D : va_G} {cy : ClassId × ClassId} {ad : Nat → Nat} {A : Nat → Prop} {res : (Int × mm)}
theorem CL5_isShortWithin_2 (X : zX p s m args meth c cX5_isShortWithin RX5 wsX5_isShortWithin 4 D cy ad (some .boolean) A) (N : Nat) : ∀ (k : Nat) (x1 : Int) (x2 : Int) (x3 : Int) (μ : mm), L5_isShortWithin_2 N k x1 x2 x3 μ = some res → ∀ (H : Heap) (locs : List Loc) (ls : Array Slot), zW D cy ad A s.heap μ H locs → lv_has ls 4 [(0, .ref (ad 0)), (1, .int (iO x1)), (2, .int (iO x2)), (3, .int (iO x3))] → W p l e (rmD 5) s m args below meth c H locs 0 0 (MQ below (zQi D cy ad A res.1 res.2) args s 0 0 A) (F0 m 2 ls []) := by
  intro k
  induction k with
  | zero =>
    intro x1 x2 x3 μ h H locs ls hW hl
    exact absurd h (by rw [L5_isShortWithin_2]; exact fun z => by cases z)
  | succ k ih =>
    intro x1 x2 x3 μ h H locs ls hW hl
    rw [L5_isShortWithin_2] at h
    refine z_iload_n (pc := 2) X.1 hl 3 rfl rfl dX5_isShortWithin_2 ?_
    refine z_iload_n (pc := 3) X.1 hl 2 rfl rfl dX5_isShortWithin_3 ?_
    obtain ⟨g1, h⟩ := z_guard h
    refine z_icmp_ge (pc := 4) (tgt := 41) X.1 dX5_isShortWithin_4 (by decide) ⟨g1.1, g1.2⟩ h (fun c7 h => ?_) (fun c7 h => ?_)
    · refine z_iconst (pc := 41) X.1 dX5_isShortWithin_41 ?_
      exact z_zret (pc := 42) X hW (by decide) (z_p1 h) (z_p2 h) dX5_isShortWithin_42
    · refine z_aload_n (pc := 7) X.1 hl 0 rfl rfl dX5_isShortWithin_7 ?_
      refine z_get1 (pc := 8) X.1 hW rfl iX5_isShortWithin_1 1 (by decide) rfl (by decide +kernel) dX5_isShortWithin_8 ?_
      refine z_aload_n (pc := 11) X.1 hl 0 rfl rfl dX5_isShortWithin_11 ?_
      refine z_get1 (pc := 12) X.1 hW rfl iX5_isShortWithin_1 3 (by decide) rfl (by decide +kernel) dX5_isShortWithin_12 ?_
      obtain ⟨q2, eq2, h⟩ := z_bind h
      refine z_callSV (pc := 15) (n := 2) (As := [.ref (ad 2), .ref (ad 4)]) (rest := []) X hW hl (C5_copies l N 2 4 (by decide) (by decide) μ eq2) gX5_isShortWithin_X5_copies rfl (by decide +kernel) rfl (by decide) rfl (Nat.le_of_ble_eq_true rfl) dX5_isShortWithin_15 (fun H locs hW => ?_)
      refine z_aload_n (pc := 18) X.1 hl 0 rfl rfl dX5_isShortWithin_18 ?_
      refine z_get1 (pc := 19) X.1 hW rfl iX5_isShortWithin_1 1 (by decide) rfl (by decide +kernel) dX5_isShortWithin_19 ?_
      obtain ⟨q3, eq3, h⟩ := z_bind h
      refine z_callSV (pc := 22) (n := 1) (As := [.ref (ad 2)]) (rest := []) X hW hl (C5_day l N 2 (by decide) q2 eq3) gX5_isShortWithin_X5_day rfl (by decide +kernel) rfl (by decide) rfl (Nat.le_of_ble_eq_true rfl) dX5_isShortWithin_22 (fun H locs hW => ?_)
      refine z_aload_n (pc := 25) X.1 hl 0 rfl rfl dX5_isShortWithin_25 ?_
      refine z_iload_n (pc := 26) X.1 hl 1 rfl rfl dX5_isShortWithin_26 ?_
      obtain ⟨q4, eq4, h⟩ := z_bind h
      refine z_callV1I (pc := 27) (n := 1) (As := [.int (iO x1)]) (rest := []) X hW hl rfl (C5_isShortOn l N x1 q3 eq4) gX5_isShortWithin_X5_isShortOn rfl (by decide +kernel) rfl (by decide) rfl (Nat.le_of_ble_eq_true rfl) dX5_isShortWithin_27 (fun H locs hW => ?_)
      obtain ⟨g5, h⟩ := z_guard h
      refine z_if_eq (pc := 30) (tgt := 35) X.1 dX5_isShortWithin_30 (by decide) g5 h (fun c6 h => ?_) (fun c6 h => ?_)
      · refine z_iinc (pc := 35) (i := 3) X.1 [(3, .int (iO (x3 + 1))), (0, .ref (ad 0)), (1, .int (iO x1)), (2, .int (iO x2))] hl 3 rfl rfl (by decide) rfl dX5_isShortWithin_35 (fun ls hl => ?_)
        refine z_goto (pc := 38) (tgt := 2) X.1 dX5_isShortWithin_38 (by decide) ?_
        exact ih x1 x2 (x3 + 1) q3 h _ _ ls hW (lv_sub hl [1, 2, 3, 0] rfl)
      · refine z_iconst (pc := 33) X.1 dX5_isShortWithin_33 ?_
        exact z_zret (pc := 34) X hW (by decide) (z_p1 h) (z_p2 h) dX5_isShortWithin_34
end
theorem C5_isShortWithin (l : Launch) {D : va_G} {cy : ClassId × ClassId} {ad : Nat → Nat} (N : Nat) (a0 : Int) (a1 : Int) (μ : mm) {res : (Int × mm)} (h : M5_isShortWithin N a0 a1 μ = some res) : zI l yX5_isShortWithin wsX5_isShortWithin 5 D cy ad [.ref (ad 0), .int (iO a0), .int (iO a1)] μ res.1 res.2 := by
  refine zI.of RX5 rfl (by decide) rfl (Nat.le_of_ble_eq_true rfl) ?_
  intro p e s m args below meth c A X hW ls hl
  have hl : lv_has ls 4 [(0, .ref (ad 0)), (1, .int (iO a0)), (2, .int (iO a1))] := hl
  unfold M5_isShortWithin at h
  refine z_iconst (pc := 0) X.1 dX5_isShortWithin_0 ?_
  refine z_istore_n (pc := 1) (i := 3) X.1 [(3, .int (iO 0)), (0, .ref (ad 0)), (1, .int (iO a0)), (2, .int (iO a1))] hl rfl rfl (by decide) rfl dX5_isShortWithin_1 (fun ls hl => ?_)
  exact CL5_isShortWithin_2 X N N a0 a1 0 μ h _ _ ls hW (lv_sub hl [1, 2, 3, 0] rfl)
-- X5_enough
theorem iX5_enough_1 : ∀ w ∈ wsX50, w ∈ wsX5_enough := by decide +kernel
section
variable {p : Program} {l : Launch} {e : Env} {s : State} {m : MethodId} {args : Array Value} {below : List Frame} {meth : Method} {c : Code} {D : va_G} {cy : ClassId × ClassId} {ad : Nat → Nat} {A : Nat → Prop} {res : (Int × mm)}
theorem CL5_enough_33 (X : zX p s m args meth c cX5_enough RX5 wsX5_enough 5 D cy ad (some .int) A) (N : Nat) : ∀ (k : Nat) (x1 : Int) (x2 : Int) (x4 : Int) (μ : mm), L5_enough_33 N k x1 x2 x4 μ = some res → ∀ (H : Heap) (locs : List Loc) (ls : Array Slot), zW D cy ad A s.heap μ H locs → lv_has ls 5 [(0, .ref (ad 0)), (1, .int (iO x1)), (2, .int (iO x2)), (4, .int (iO x4))] → W p l e (rmD 6) s m args below meth c H locs 0 0 (MQ below (zQi D cy ad A res.1 res.2) args s 0 0 A) (F0 m 33 ls []) := by
  intro k
  induction k with
  | zero =>
    intro x1 x2 x4 μ h H locs ls hW hl
    exact absurd h (by rw [L5_enough_33]; exact fun z => by cases z)
  | succ k ih =>
    intro x1 x2 x4 μ h H locs ls hW hl
    rw [L5_enough_33] at h
    refine z_iload (pc := 33) X.1 hl 3 rfl dX5_enough_33 ?_
    refine z_bipush (pc := 35) X.1 dX5_enough_35 (by decide) ?_
    obtain ⟨g4, h⟩ := z_guard h
    refine z_icmp_ge (pc := 37) (tgt := 81) X.1 dX5_enough_37 (by decide) ⟨g4, (by decide)⟩ h (fun c11 h => ?_) (fun c11 h => ?_)
    · refine z_bipush (pc := 81) X.1 dX5_enough_81 (by decide) ?_
      exact z_iret (pc := 83) X hW (z_p1 h) (z_p2 h) dX5_enough_83
    · refine z_aload_n (pc := 40) X.1 hl 0 rfl rfl dX5_enough_40 ?_
      refine z_get1 (pc := 41) X.1 hW rfl iX5_enough_1 0 (by decide) rfl (by decide +kernel) dX5_enough_41 ?_
      refine z_aload_n (pc := 44) X.1 hl 0 rfl rfl dX5_enough_44 ?_
      refine z_get1 (pc := 45) X.1 hW rfl iX5_enough_1 1 (by decide) rfl (by decide +kernel) dX5_enough_45 ?_
      obtain ⟨q5, eq5, h⟩ := z_bind h
      refine z_callSV (pc := 48) (n := 2) (As := [.ref (ad 1), .ref (ad 2)]) (rest := []) X hW hl (C5_copies l N 1 2 (by decide) (by decide) μ eq5) gX5_enough_X5_copies rfl (by decide +kernel) rfl (by decide) rfl (Nat.le_of_ble_eq_true rfl) dX5_enough_48 (fun H locs hW => ?_)
      refine z_aload_n (pc := 51) X.1 hl 0 rfl rfl dX5_enough_51 ?_
      refine z_get1 (pc := 52) X.1 hW rfl iX5_enough_1 1 (by decide) rfl (by decide +kernel) dX5_enough_52 ?_
      refine z_iload_n (pc := 55) X.1 hl 1 rfl rfl dX5_enough_55 ?_
      refine z_iconst (pc := 56) X.1 dX5_enough_56 ?_
      refine z_callSI (pc := 57) (n := 2) (As := [.int (iO x1), .int (iO 2)]) (rest := [.ref (ad 2)]) X hW hl (C5_of l N x1 2 q5) gX5_enough_X5_of rfl (by decide +kernel) rfl (by decide) rfl (Nat.le_of_ble_eq_true rfl) dX5_enough_57 (fun H locs hW => ?_)
      refine z_iload (pc := 60) X.1 hl 3 rfl dX5_enough_60 ?_
      obtain ⟨g6, h⟩ := z_guard h
      obtain ⟨μ7, eμ7, h⟩ := z_bnd h
      refine z_iast (pc := 62) X.1 hW rfl ⟨g6.1, g6.2⟩ dX5_enough_62 (fun H locs hW => ?_)
      replace hW : zW D cy ad A s.heap μ7 H locs := by rw [eμ7]; exact hW
      refine z_aload_n (pc := 63) X.1 hl 0 rfl rfl dX5_enough_63 ?_
      refine z_iload_n (pc := 64) X.1 hl 1 rfl rfl dX5_enough_64 ?_
      refine z_iload_n (pc := 65) X.1 hl 2 rfl rfl dX5_enough_65 ?_
      obtain ⟨q8, eq8, h⟩ := z_bind h
      refine z_callV1I (pc := 66) (n := 2) (As := [.int (iO x1), .int (iO x2)]) (rest := []) X hW hl rfl (C5_isShortWithin l N x1 x2 μ7 eq8) gX5_enough_X5_isShortWithin rfl (by decide +kernel) rfl (by decide) rfl (Nat.le_of_ble_eq_true rfl) dX5_enough_66 (fun H locs hW => ?_)
      obtain ⟨g9, h⟩ := z_guard h
      refine z_if_ne (pc := 69) (tgt := 75) X.1 dX5_enough_69 (by decide) g9 h (fun c10 h => ?_) (fun c10 h => ?_)
      · refine z_iinc (pc := 75) (i := 4) X.1 [(4, .int (iO (x4 + 1))), (0, .ref (ad 0)), (1, .int (iO x1)), (2, .int (iO x2))] hl 3 rfl rfl (by decide) rfl dX5_enough_75 (fun ls hl => ?_)
        refine z_goto (pc := 78) (tgt := 33) X.1 dX5_enough_78 (by decide) ?_
        exact ih x1 x2 (x4 + 1) q8.2 h _ _ ls hW (lv_sub hl [1, 2, 3, 0] rfl)
      · refine z_iload (pc := 72) X.1 hl 3 rfl dX5_enough_72 ?_
        exact z_iret (pc := 74) X hW (z_p1 h) (z_p2 h) dX5_enough_74
theorem CJ5_enough_19 (X : zX p s m args meth c cX5_enough RX5 wsX5_enough 5 D cy ad (some .int) A) (N : Nat) : ∀ (x1 : Int) (x2 : Int) (y0 : Int) (μ : mm), J5_enough_19 N x1 x2 y0 μ = some res → ∀ (H : Heap) (locs : List Loc) (ls : Array Slot), zW D cy ad A s.heap μ H locs → lv_has ls 5 [(0, .ref (ad 0)), (1, .int (iO x1)), (2, .int (iO x2))] → W p l e (rmD 6) s m args below meth c H locs 0 0 (MQ below (zQi D cy ad A res.1 res.2) args s 0 0 A) (F0 m 19 ls [.int (iO y0)]) := by
  intro x1 x2 y0 μ h H locs ls hW hl
  rw [J5_enough_19] at h
  refine z_istore_n (pc := 19) (i := 3) X.1 [(3, .int (iO y0)), (0, .ref (ad 0)), (1, .int (iO x1)), (2, .int (iO x2))] hl rfl rfl (by decide) rfl dX5_enough_19 (fun ls hl => ?_)
  refine z_iload_n (pc := 20) X.1 hl 0 rfl rfl dX5_enough_20 ?_
  obtain ⟨g3, h⟩ := z_guard h
  refine z_if_eq (pc := 21) (tgt := 30) X.1 dX5_enough_21 (by decide) g3 h (fun c13 h => ?_) (fun c13 h => ?_)
  · refine z_iconst (pc := 30) X.1 dX5_enough_30 ?_
    refine z_istore (pc := 31) (i := 4) X.1 [(4, .int (iO 0)), (3, .int (iO y0)), (0, .ref (ad 0)), (1, .int (iO x1)), (2, .int (iO x2))] hl rfl (by decide) rfl dX5_enough_31 (fun ls hl => ?_)
    exact CL5_enough_33 X N N x1 x2 0 μ h _ _ ls hW (lv_sub hl [2, 3, 4, 0] rfl)
  · refine z_aload_n (pc := 24) X.1 hl 1 rfl rfl dX5_enough_24 ?_
    refine z_iload_n (pc := 25) X.1 hl 0 rfl rfl dX5_enough_25 ?_
    obtain ⟨q12, eq12, h⟩ := z_bind h
    refine z_callV1I (pc := 26) (n := 1) (As := [.int (iO y0)]) (rest := []) X hW hl rfl (C5_no l N y0 μ eq12) gX5_enough_X5_no rfl (by decide +kernel) rfl (by decide) rfl (Nat.le_of_ble_eq_true rfl) dX5_enough_26 (fun H locs hW => ?_)
    exact z_iret (pc := 29) X hW (z_p1 h) (z_p2 h) dX5_enough_29
end
theorem C5_enough (l : Launch) {D : va_G} {cy : ClassId × ClassId} {ad : Nat → Nat} (N : Nat) (a0 : Int) (a1 : Int) (μ : mm) {res : (Int × mm)} (h : M5_enough N a0 a1 μ = some res) : zI l yX5_enough wsX5_enough 6 D cy ad [.ref (ad 0), .int (iO a0), .int (iO a1)] μ res.1 res.2 := by
  refine zI.of RX5 rfl (by decide) rfl (Nat.le_of_ble_eq_true rfl) ?_
  intro p e s m args below meth c A X hW ls hl
  have hl : lv_has ls 5 [(0, .ref (ad 0)), (1, .int (iO a0)), (2, .int (iO a1))] := hl
  unfold M5_enough at h
  refine z_aload_n (pc := 0) X.1 hl 0 rfl rfl dX5_enough_0 ?_
  refine z_iload_n (pc := 1) X.1 hl 1 rfl rfl dX5_enough_1 ?_
  obtain ⟨q1, eq1, h⟩ := z_bind h
  refine z_callV1I (pc := 2) (n := 1) (As := [.int (iO a0)]) (rest := []) X hW hl rfl (C5_isOne l N a0 μ eq1) gX5_enough_X5_isOne rfl (by decide +kernel) rfl (by decide) rfl (Nat.le_of_ble_eq_true rfl) dX5_enough_2 (fun H locs hW => ?_)
  obtain ⟨g2, h⟩ := z_guard h
  refine z_if_eq (pc := 5) (tgt := 18) X.1 dX5_enough_5 (by decide) g2 h (fun c15 h => ?_) (fun c15 h => ?_)
  · refine z_iconst (pc := 18) X.1 dX5_enough_18 ?_
    exact CJ5_enough_19 X N a0 a1 (-1) μ h _ _ ls hW (lv_sub hl [0, 1, 2] rfl)
  · refine z_iload_n (pc := 8) X.1 hl 2 rfl rfl dX5_enough_8 ?_
    refine z_iconst (pc := 9) X.1 dX5_enough_9 ?_
    refine z_bipush (pc := 10) X.1 dX5_enough_10 (by decide) ?_
    obtain ⟨q14, eq14, h⟩ := z_bind h
    refine z_callSI (pc := 12) (n := 3) (As := [.int (iO a1), .int (iO 1), .int (iO 60)]) (rest := []) X hW hl (C5_wrongBy l N a1 1 60 μ eq14) gX5_enough_X5_wrongBy rfl (by decide +kernel) rfl (by decide) rfl (Nat.le_of_ble_eq_true rfl) dX5_enough_12 (fun H locs hW => ?_)
    refine z_goto (pc := 15) (tgt := 19) X.1 dX5_enough_15 (by decide) ?_
    exact CJ5_enough_19 X N a0 a1 q14 μ h _ _ ls hW (lv_sub hl [0, 1, 2] rfl)
