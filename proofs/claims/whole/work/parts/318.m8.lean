-- X4_whatIs
theorem iX4_whatIs_5 : ∀ w ∈ wsX20, w ∈ wsX4_whatIs := by decide +kernel
theorem iX4_whatIs_7 : ∀ w ∈ wsX40, w ∈ wsX4_whatIs := by decide +kernel
section
variable {p : Program} {l : Launch} {e : Env} {s : State} {m : MethodId} {args : Array Value} {below : List Frame} {meth : Method} {c : Code} {D : va_G} {cy : ClassId × ClassId} {ad : Nat → Nat} {A : Nat → Prop} {res : (Int × mm)}
theorem CJ4_whatIs_110 (X : zX p s m args meth c cX4_whatIs RX4 wsX4_whatIs 7 D cy ad (some .int) A) (N : Nat) (rec47 : Int → Int → Int → Int → Int → mm → Option (Int × mm)) (hrec47 : ∀ (x1 : Int) (x2 : Int) (x4 : Int) (x5 : Int) (x6 : Int) (μ : mm), rec47 x1 x2 x4 x5 x6 μ = some res → ∀ (H : Heap) (locs : List Loc) (ls : Array Slot), zW D cy ad A s.heap μ H locs → lv_has ls 7 [(0, .ref (ad 9)), (1, .int (iO x1)), (2, .int (iO x2)), (4, .int (iO x4)), (5, .int (iO x5)), (6, .int (iO x6))] → W p l e (rmD 3) s m args below meth c H locs 0 0 (MQ below (zQi D cy ad A res.1 res.2) args s 0 0 A) (F0 m 47 ls [])) : ∀ (x1 : Int) (x2 : Int) (x4 : Int) (x5 : Int) (x6 : Int) (μ : mm), J4_whatIs_110 N rec47 x1 x2 x4 x5 x6 μ = some res → ∀ (H : Heap) (locs : List Loc) (ls : Array Slot), zW D cy ad A s.heap μ H locs → lv_has ls 7 [(0, .ref (ad 9)), (1, .int (iO x1)), (2, .int (iO x2)), (4, .int (iO x4)), (5, .int (iO x5)), (6, .int (iO x6))] → W p l e (rmD 3) s m args below meth c H locs 0 0 (MQ below (zQi D cy ad A res.1 res.2) args s 0 0 A) (F0 m 110 ls []) := by
  intro x1 x2 x4 x5 x6 μ h H locs ls hW hl
  rw [J4_whatIs_110] at h
  refine z_iinc (pc := 110) (i := 6) X.1 [(6, .int (iO (x6 + 1))), (0, .ref (ad 9)), (1, .int (iO x1)), (2, .int (iO x2)), (4, .int (iO x4)), (5, .int (iO x5))] hl 5 rfl rfl (by decide) rfl dX4_whatIs_110 (fun ls hl => ?_)
  refine z_goto (pc := 113) (tgt := 47) X.1 dX4_whatIs_113 (by decide) ?_
  exact hrec47 x1 x2 x4 x5 (x6 + 1) μ h _ _ ls hW (lv_sub hl [1, 2, 3, 4, 5, 0] rfl)
theorem CJ4_whatIs_94 (X : zX p s m args meth c cX4_whatIs RX4 wsX4_whatIs 7 D cy ad (some .int) A) (N : Nat) (rec47 : Int → Int → Int → Int → Int → mm → Option (Int × mm)) (hrec47 : ∀ (x1 : Int) (x2 : Int) (x4 : Int) (x5 : Int) (x6 : Int) (μ : mm), rec47 x1 x2 x4 x5 x6 μ = some res → ∀ (H : Heap) (locs : List Loc) (ls : Array Slot), zW D cy ad A s.heap μ H locs → lv_has ls 7 [(0, .ref (ad 9)), (1, .int (iO x1)), (2, .int (iO x2)), (4, .int (iO x4)), (5, .int (iO x5)), (6, .int (iO x6))] → W p l e (rmD 3) s m args below meth c H locs 0 0 (MQ below (zQi D cy ad A res.1 res.2) args s 0 0 A) (F0 m 47 ls [])) : ∀ (x1 : Int) (x2 : Int) (x4 : Int) (x5 : Int) (x6 : Int) (μ : mm), J4_whatIs_94 N rec47 x1 x2 x4 x5 x6 μ = some res → ∀ (H : Heap) (locs : List Loc) (ls : Array Slot), zW D cy ad A s.heap μ H locs → lv_has ls 7 [(0, .ref (ad 9)), (1, .int (iO x1)), (2, .int (iO x2)), (4, .int (iO x4)), (5, .int (iO x5)), (6, .int (iO x6))] → W p l e (rmD 3) s m args below meth c H locs 0 0 (MQ below (zQi D cy ad A res.1 res.2) args s 0 0 A) (F0 m 94 ls []) := by
  intro x1 x2 x4 x5 x6 μ h H locs ls hW hl
  rw [J4_whatIs_94] at h
  refine z_aload_n (pc := 94) X.1 hl 0 rfl rfl dX4_whatIs_94 ?_
  obtain ⟨q12, eq12, h⟩ := z_bind h
  refine z_callV7I (pc := 95) (n := 0) (As := []) (rest := []) X hW hl rfl (C4_rowIsOfTrial l N  μ eq12) gX4_whatIs_X4_rowIsOfTrial rfl (by decide +kernel) rfl (by decide) rfl (Nat.le_of_ble_eq_true rfl) dX4_whatIs_95 (fun H locs hW => ?_)
  obtain ⟨g13, h⟩ := z_guard h
  refine z_if_eq (pc := 98) (tgt := 110) X.1 dX4_whatIs_98 (by decide) g13 h (fun c16 h => ?_) (fun c16 h => ?_)
  · exact CJ4_whatIs_110 X N rec47 hrec47 x1 x2 x4 x5 x6 q12.2 h _ _ ls hW (lv_sub hl [0, 1, 2, 3, 4, 5] rfl)
  · refine z_iload (pc := 101) X.1 hl 3 rfl dX4_whatIs_101 ?_
    refine z_iconst (pc := 103) X.1 dX4_whatIs_103 ?_
    refine z_iload (pc := 104) X.1 hl 5 rfl dX4_whatIs_104 ?_
    obtain ⟨g14, h⟩ := z_guard h
    refine z_ishl (pc := 106) X.1 dX4_whatIs_106 ⟨g14.1, g14.2⟩ ?_
    refine z_ior (pc := 107) X.1 dX4_whatIs_107 ?_
    obtain ⟨w15, ew15, h⟩ := z_bnd h
    refine z_istore (pc := 108) (i := 4) X.1 [(4, .int (iO w15)), (0, .ref (ad 9)), (1, .int (iO x1)), (2, .int (iO x2)), (5, .int (iO x5)), (6, .int (iO x6))] hl ew15 (by decide) rfl dX4_whatIs_108 (fun ls hl => ?_)
    exact CJ4_whatIs_110 X N rec47 hrec47 x1 x2 w15 x5 x6 q12.2 h _ _ ls hW (lv_sub hl [1, 2, 3, 0, 4, 5] rfl)
theorem CL4_whatIs_47 (X : zX p s m args meth c cX4_whatIs RX4 wsX4_whatIs 7 D cy ad (some .int) A) (N : Nat) : ∀ (k : Nat) (x1 : Int) (x2 : Int) (x4 : Int) (x5 : Int) (x6 : Int) (μ : mm), L4_whatIs_47 N k x1 x2 x4 x5 x6 μ = some res → ∀ (H : Heap) (locs : List Loc) (ls : Array Slot), zW D cy ad A s.heap μ H locs → lv_has ls 7 [(0, .ref (ad 9)), (1, .int (iO x1)), (2, .int (iO x2)), (4, .int (iO x4)), (5, .int (iO x5)), (6, .int (iO x6))] → W p l e (rmD 3) s m args below meth c H locs 0 0 (MQ below (zQi D cy ad A res.1 res.2) args s 0 0 A) (F0 m 47 ls []) := by
  intro k
  induction k with
  | zero =>
    intro x1 x2 x4 x5 x6 μ h H locs ls hW hl
    exact absurd h (by rw [L4_whatIs_47]; exact fun z => by cases z)
  | succ k ih =>
    intro x1 x2 x4 x5 x6 μ h H locs ls hW hl
    rw [L4_whatIs_47] at h
    refine z_iload (pc := 47) X.1 hl 5 rfl dX4_whatIs_47 ?_
    refine z_iload (pc := 49) X.1 hl 4 rfl dX4_whatIs_49 ?_
    obtain ⟨g6, h⟩ := z_guard h
    refine z_icmp_ge (pc := 51) (tgt := 116) X.1 dX4_whatIs_51 (by decide) ⟨g6.1, g6.2⟩ h (fun c19 h => ?_) (fun c19 h => ?_)
    · refine z_iload (pc := 116) X.1 hl 3 rfl dX4_whatIs_116 ?_
      exact z_iret (pc := 118) X hW (z_p1 h) (z_p2 h) dX4_whatIs_118
    · refine z_aload_n (pc := 54) X.1 hl 0 rfl rfl dX4_whatIs_54 ?_
      refine z_get7 (pc := 55) X.1 hW rfl iX4_whatIs_7 3 (by decide) rfl (by decide +kernel) dX4_whatIs_55 ?_
      refine z_aload_n (pc := 58) X.1 hl 0 rfl rfl dX4_whatIs_58 ?_
      refine z_get7 (pc := 59) X.1 hW rfl iX4_whatIs_7 0 (by decide) rfl (by decide +kernel) dX4_whatIs_59 ?_
      refine z_iload_n (pc := 62) X.1 hl 1 rfl rfl dX4_whatIs_62 ?_
      obtain ⟨q7, eq7, h⟩ := z_bind h
      obtain ⟨g8, h⟩ := z_guard h
      refine z_callV3R (pc := 63) (n := 1) (As := [.int (iO x1)]) (rest := [.ref (ad 43)]) X hW hl rfl (C1_at l N 10 x1 rfl μ eq7) gX4_whatIs_X1_at rfl (by decide +kernel) rfl (by decide) rfl (Nat.le_of_ble_eq_true rfl) dX4_whatIs_63 (fun H locs hW => ?_)
      obtain ⟨q9, eq9, h⟩ := z_bind h
      refine z_callV5V (pc := 66) (n := 1) (As := [.ref (ad q7)]) (rest := []) X hW hl rfl (C2_takeFrom l N 43 q7 rfl g8 μ eq9) gX4_whatIs_X2_takeFrom rfl (by decide +kernel) rfl (by decide) rfl (Nat.le_of_ble_eq_true rfl) dX4_whatIs_66 (fun H locs hW => ?_)
      refine z_iload_n (pc := 69) X.1 hl 2 rfl rfl dX4_whatIs_69 ?_
      obtain ⟨g10, h⟩ := z_guard h
      refine z_if_ne (pc := 70) (tgt := 85) X.1 dX4_whatIs_70 (by decide) g10 h (fun c18 h => ?_) (fun c18 h => ?_)
      · refine z_aload_n (pc := 85) X.1 hl 0 rfl rfl dX4_whatIs_85 ?_
        refine z_get7 (pc := 86) X.1 hW rfl iX4_whatIs_7 3 (by decide) rfl (by decide +kernel) dX4_whatIs_86 ?_
        refine z_iload (pc := 89) X.1 hl 5 rfl dX4_whatIs_89 ?_
        obtain ⟨μ11, eμ11, h⟩ := z_bnd h
        refine z_put5_1 (pc := 91) X.1 hW rfl iX4_whatIs_5 (by decide +kernel) dX4_whatIs_91 (fun H locs hW => ?_)
        rw [← eμ11] at hW
        exact CJ4_whatIs_94 X N (L4_whatIs_47 N k) ih x1 x2 x4 x5 x6 μ11 h _ _ ls hW (lv_sub hl [0, 1, 2, 3, 4, 5] rfl)
      · refine z_aload_n (pc := 73) X.1 hl 0 rfl rfl dX4_whatIs_73 ?_
        refine z_get7 (pc := 74) X.1 hW rfl iX4_whatIs_7 3 (by decide) rfl (by decide +kernel) dX4_whatIs_74 ?_
        refine z_iload (pc := 77) X.1 hl 5 rfl dX4_whatIs_77 ?_
        obtain ⟨μ17, eμ17, h⟩ := z_bnd h
        refine z_put5_0 (pc := 79) X.1 hW rfl iX4_whatIs_5 (by decide +kernel) dX4_whatIs_79 (fun H locs hW => ?_)
        rw [← eμ17] at hW
        refine z_goto (pc := 82) (tgt := 94) X.1 dX4_whatIs_82 (by decide) ?_
        exact CJ4_whatIs_94 X N (L4_whatIs_47 N k) ih x1 x2 x4 x5 x6 μ17 h _ _ ls hW (lv_sub hl [0, 1, 2, 3, 4, 5] rfl)
theorem CJ4_whatIs_42 (X : zX p s m args meth c cX4_whatIs RX4 wsX4_whatIs 7 D cy ad (some .int) A) (N : Nat) : ∀ (x1 : Int) (x2 : Int) (x4 : Int) (y0 : Int) (μ : mm), J4_whatIs_42 N x1 x2 x4 y0 μ = some res → ∀ (H : Heap) (locs : List Loc) (ls : Array Slot), zW D cy ad A s.heap μ H locs → lv_has ls 7 [(0, .ref (ad 9)), (1, .int (iO x1)), (2, .int (iO x2)), (4, .int (iO x4))] → W p l e (rmD 3) s m args below meth c H locs 0 0 (MQ below (zQi D cy ad A res.1 res.2) args s 0 0 A) (F0 m 42 ls [.int (iO y0)]) := by
  intro x1 x2 x4 y0 μ h H locs ls hW hl
  rw [J4_whatIs_42] at h
  refine z_istore (pc := 42) (i := 5) X.1 [(5, .int (iO y0)), (0, .ref (ad 9)), (1, .int (iO x1)), (2, .int (iO x2)), (4, .int (iO x4))] hl rfl (by decide) rfl dX4_whatIs_42 (fun ls hl => ?_)
  refine z_iconst (pc := 44) X.1 dX4_whatIs_44 ?_
  refine z_istore (pc := 45) (i := 6) X.1 [(6, .int (iO 0)), (5, .int (iO y0)), (0, .ref (ad 9)), (1, .int (iO x1)), (2, .int (iO x2)), (4, .int (iO x4))] hl rfl (by decide) rfl dX4_whatIs_45 (fun ls hl => ?_)
  exact CL4_whatIs_47 X N N x1 x2 x4 y0 0 μ h _ _ ls hW (lv_sub hl [2, 3, 4, 5, 1, 0] rfl)
end
theorem C4_whatIs (l : Launch) {D : va_G} {cy : ClassId × ClassId} {ad : Nat → Nat} (N : Nat) (a0 : Int) (a1 : Int) (μ : mm) {res : (Int × mm)} (h : M4_whatIs N a0 a1 μ = some res) : zI l yX4_whatIs wsX4_whatIs 3 D cy ad [.ref (ad 9), .int (iO a0), .int (iO a1)] μ res.1 res.2 := by
  refine zI.of RX4 rfl (by decide) rfl (Nat.le_of_ble_eq_true rfl) ?_
  intro p e s m args below meth c A X hW ls hl
  have hl : lv_has ls 7 [(0, .ref (ad 9)), (1, .int (iO a0)), (2, .int (iO a1))] := hl
  unfold M4_whatIs at h
  refine z_aload_n (pc := 0) X.1 hl 0 rfl rfl dX4_whatIs_0 ?_
  refine z_iload_n (pc := 1) X.1 hl 1 rfl rfl dX4_whatIs_1 ?_
  obtain ⟨q1, eq1, h⟩ := z_bind h
  refine z_callV7I (pc := 2) (n := 1) (As := [.int (iO a0)]) (rest := []) X hW hl rfl (C4_unknown l N a0 μ eq1) gX4_whatIs_X4_unknown rfl (by decide +kernel) rfl (by decide) rfl (Nat.le_of_ble_eq_true rfl) dX4_whatIs_2 (fun H locs hW => ?_)
  refine z_iload_n (pc := 5) X.1 hl 2 rfl rfl dX4_whatIs_5 ?_
  refine z_iconst (pc := 6) X.1 dX4_whatIs_6 ?_
  obtain ⟨q2, eq2, h⟩ := z_bind h
  refine z_callSI (pc := 7) (n := 2) (As := [.int (iO a1), .int (iO 1)]) (rest := [.int (iO q1)]) X hW hl (C4_other l N a1 1 μ eq2) gX4_whatIs_X4_other rfl (by decide +kernel) rfl (by decide) rfl (Nat.le_of_ble_eq_true rfl) dX4_whatIs_7 (fun H locs hW => ?_)
  refine z_iconst (pc := 10) X.1 dX4_whatIs_10 ?_
  obtain ⟨q3, eq3, h⟩ := z_bind h
  refine z_callSI (pc := 11) (n := 3) (As := [.int (iO q1), .int (iO q2), .int (iO 0)]) (rest := []) X hW hl (C4_firstOf l N q1 q2 0 μ eq3) gX4_whatIs_X4_firstOf rfl (by decide +kernel) rfl (by decide) rfl (Nat.le_of_ble_eq_true rfl) dX4_whatIs_11 (fun H locs hW => ?_)
  refine z_istore_n (pc := 14) (i := 3) X.1 [(3, .int (iO q3)), (0, .ref (ad 9)), (1, .int (iO a0)), (2, .int (iO a1))] hl rfl rfl (by decide) rfl dX4_whatIs_14 (fun ls hl => ?_)
  refine z_iload_n (pc := 15) X.1 hl 0 rfl rfl dX4_whatIs_15 ?_
  obtain ⟨g4, h⟩ := z_guard h
  refine z_if_eq (pc := 16) (tgt := 25) X.1 dX4_whatIs_16 (by decide) g4 h (fun c23 h => ?_) (fun c23 h => ?_)
  · refine z_iconst (pc := 25) X.1 dX4_whatIs_25 ?_
    refine z_istore (pc := 26) (i := 4) X.1 [(4, .int (iO 0)), (3, .int (iO q3)), (0, .ref (ad 9)), (1, .int (iO a0)), (2, .int (iO a1))] hl rfl (by decide) rfl dX4_whatIs_26 (fun ls hl => ?_)
    refine z_iload_n (pc := 28) X.1 hl 4 rfl rfl dX4_whatIs_28 ?_
    obtain ⟨g5, h⟩ := z_guard h
    refine z_if_ne (pc := 29) (tgt := 40) X.1 dX4_whatIs_29 (by decide) g5 h (fun c21 h => ?_) (fun c21 h => ?_)
    · refine z_bipush (pc := 40) X.1 dX4_whatIs_40 (by decide) ?_
      exact CJ4_whatIs_42 X N a0 a1 0 10 μ h _ _ ls hW (lv_sub hl [2, 3, 4, 0] rfl)
    · refine z_ldcS212 (pc := 32) X dX4_whatIs_32 ?_
      obtain ⟨q20, eq20, h⟩ := z_bind h
      refine z_callVSI (pc := 34) (n := 0) (As := []) (rest := []) X hW hl (by decide) (C0_length_8abf5 l N 65 (by decide) μ eq20) gX4_whatIs_J0_length_8abf5 rfl (by decide +kernel) rfl (by decide) rfl (Nat.le_of_ble_eq_true rfl) dX4_whatIs_34 (fun H locs hW => ?_)
      refine z_goto (pc := 37) (tgt := 42) X.1 dX4_whatIs_37 (by decide) ?_
      exact CJ4_whatIs_42 X N a0 a1 0 q20 μ h _ _ ls hW (lv_sub hl [2, 3, 4, 0] rfl)
  · refine z_aload_n (pc := 19) X.1 hl 1 rfl rfl dX4_whatIs_19 ?_
    refine z_iload_n (pc := 20) X.1 hl 0 rfl rfl dX4_whatIs_20 ?_
    obtain ⟨q22, eq22, h⟩ := z_bind h
    refine z_callV7I (pc := 21) (n := 1) (As := [.int (iO q3)]) (rest := []) X hW hl rfl (C4_refused l N q3 μ eq22) gX4_whatIs_X4_refused rfl (by decide +kernel) rfl (by decide) rfl (Nat.le_of_ble_eq_true rfl) dX4_whatIs_21 (fun H locs hW => ?_)
    exact z_iret (pc := 24) X hW (z_p1 h) (z_p2 h) dX4_whatIs_24
-- X4_row
theorem iX4_row_7 : ∀ w ∈ wsX40, w ∈ wsX4_row := by decide +kernel
section
variable {p : Program} {l : Launch} {e : Env} {s : State} {m : MethodId} {args : Array Value} {below : List Frame} {meth : Method} {c : Code} {D : va_G} {cy : ClassId × ClassId} {ad : Nat → Nat} {A : Nat → Prop} {res : (Int × mm)}
theorem CJ4_row_27 (X : zX p s m args meth c cX4_row RX4 wsX4_row 3 D cy ad (some .int) A) (N : Nat) : ∀ (x1 : Int) (x2 : Int) (μ : mm), J4_row_27 N x1 x2 μ = some res → ∀ (H : Heap) (locs : List Loc) (ls : Array Slot), zW D cy ad A s.heap μ H locs → lv_has ls 3 [(0, .ref (ad 9)), (1, .int (iO x1)), (2, .int (iO x2))] → W p l e (rmD 1) s m args below meth c H locs 0 0 (MQ below (zQi D cy ad A res.1 res.2) args s 0 0 A) (F0 m 27 ls []) := by
  intro x1 x2 μ h H locs ls hW hl
  rw [J4_row_27] at h
  refine z_iload_n (pc := 27) X.1 hl 2 rfl rfl dX4_row_27 ?_
  obtain ⟨g3, h⟩ := z_guard h
  refine z_if_eq (pc := 28) (tgt := 37) X.1 dX4_row_28 (by decide) g3 h (fun c12 h => ?_) (fun c12 h => ?_)
  · refine z_aload_n (pc := 37) X.1 hl 0 rfl rfl dX4_row_37 ?_
    refine z_get7 (pc := 38) X.1 hW rfl iX4_row_7 9 (by decide) rfl (by decide +kernel) dX4_row_38 ?_
    obtain ⟨g4, h⟩ := z_guard h
    refine z_if_lt (pc := 41) (tgt := 73) X.1 dX4_row_41 (by decide) g4 h (fun c10 h => ?_) (fun c10 h => ?_)
    · refine z_aload_n (pc := 73) X.1 hl 0 rfl rfl dX4_row_73 ?_
      refine z_get7 (pc := 74) X.1 hW rfl iX4_row_7 9 (by decide) rfl (by decide +kernel) dX4_row_74 ?_
      exact z_iret (pc := 77) X hW (z_p1 h) (z_p2 h) dX4_row_77
    · refine z_aload_n (pc := 44) X.1 hl 0 rfl rfl dX4_row_44 ?_
      refine z_get7 (pc := 45) X.1 hW rfl iX4_row_7 9 (by decide) rfl (by decide +kernel) dX4_row_45 ?_
      refine z_aload_n (pc := 48) X.1 hl 0 rfl rfl dX4_row_48 ?_
      refine z_get7 (pc := 49) X.1 hW rfl iX4_row_7 5 (by decide) rfl (by decide +kernel) dX4_row_49 ?_
      refine z_alen (pc := 52) (i := 46) X.1 hW rfl dX4_row_52 ?_
      obtain ⟨g5, h⟩ := z_guard h
      refine z_icmp_ge (pc := 53) (tgt := 73) X.1 dX4_row_53 (by decide) ⟨g5, (by decide)⟩ h (fun c9 h => ?_) (fun c9 h => ?_)
      · refine z_aload_n (pc := 73) X.1 hl 0 rfl rfl dX4_row_73 ?_
        refine z_get7 (pc := 74) X.1 hW rfl iX4_row_7 9 (by decide) rfl (by decide +kernel) dX4_row_74 ?_
        exact z_iret (pc := 77) X hW (z_p1 h) (z_p2 h) dX4_row_77
      · refine z_aload_n (pc := 56) X.1 hl 0 rfl rfl dX4_row_56 ?_
        refine z_get7 (pc := 57) X.1 hW rfl iX4_row_7 5 (by decide) rfl (by decide +kernel) dX4_row_57 ?_
        refine z_aload_n (pc := 60) X.1 hl 0 rfl rfl dX4_row_60 ?_
        refine z_dup (pc := 61) X.1 dX4_row_61 rfl ?_
        refine z_get7 (pc := 62) X.1 hW rfl iX4_row_7 9 (by decide) rfl (by decide +kernel) dX4_row_62 ?_
        refine z_dup_x1 (pc := 65) X.1 dX4_row_65 rfl rfl ?_
        refine z_iconst (pc := 66) X.1 dX4_row_66 ?_
        refine z_iadd (pc := 67) X.1 dX4_row_67 ?_
        obtain ⟨μ6, eμ6, h⟩ := z_bnd h
        refine z_put7_9 (pc := 68) X.1 hW rfl iX4_row_7 (by decide +kernel) dX4_row_68 (fun H locs hW => ?_)
        rw [← eμ6] at hW
        refine z_iload_n (pc := 71) X.1 hl 1 rfl rfl dX4_row_71 ?_
        obtain ⟨g7, h⟩ := z_guard h
        obtain ⟨μ8, eμ8, h⟩ := z_bnd h
        refine z_iast (pc := 72) X.1 hW rfl ⟨g7.1, g7.2⟩ dX4_row_72 (fun H locs hW => ?_)
        replace hW : zW D cy ad A s.heap μ8 H locs := by rw [eμ8]; exact hW
        refine z_aload_n (pc := 73) X.1 hl 0 rfl rfl dX4_row_73 ?_
        refine z_get7 (pc := 74) X.1 hW rfl iX4_row_7 9 (by decide) rfl (by decide +kernel) dX4_row_74 ?_
        exact z_iret (pc := 77) X hW (z_p1 h) (z_p2 h) dX4_row_77
  · refine z_aload_n (pc := 31) X.1 hl 0 rfl rfl dX4_row_31 ?_
    refine z_iload_n (pc := 32) X.1 hl 2 rfl rfl dX4_row_32 ?_
    obtain ⟨q11, eq11, h⟩ := z_bind h
    refine z_callV7I (pc := 33) (n := 1) (As := [.int (iO x2)]) (rest := []) X hW hl rfl (C4_refused l N x2 μ eq11) gX4_row_X4_refused rfl (by decide +kernel) rfl (by decide) rfl (Nat.le_of_ble_eq_true rfl) dX4_row_33 (fun H locs hW => ?_)
    exact z_iret (pc := 36) X hW (z_p1 h) (z_p2 h) dX4_row_36
end
theorem C4_row (l : Launch) {D : va_G} {cy : ClassId × ClassId} {ad : Nat → Nat} (N : Nat) (a0 : Int) (μ : mm) {res : (Int × mm)} (h : M4_row N a0 μ = some res) : zI l yX4_row wsX4_row 1 D cy ad [.ref (ad 9), .int (iO a0)] μ res.1 res.2 := by
  refine zI.of RX4 rfl (by decide) rfl (Nat.le_of_ble_eq_true rfl) ?_
  intro p e s m args below meth c A X hW ls hl
  have hl : lv_has ls 3 [(0, .ref (ad 9)), (1, .int (iO a0))] := hl
  unfold M4_row at h
  refine z_iload_n (pc := 0) X.1 hl 1 rfl rfl dX4_row_0 ?_
  refine z_iconst (pc := 1) X.1 dX4_row_1 ?_
  refine z_bipush (pc := 2) X.1 dX4_row_2 (by decide) ?_
  obtain ⟨q1, eq1, h⟩ := z_bind h
  refine z_callSI (pc := 4) (n := 3) (As := [.int (iO a0), .int (iO 0), .int (iO 99)]) (rest := []) X hW hl (C4_outside l N a0 0 99 μ eq1) gX4_row_X4_outside rfl (by decide +kernel) rfl (by decide) rfl (Nat.le_of_ble_eq_true rfl) dX4_row_4 (fun H locs hW => ?_)
  refine z_istore_n (pc := 7) (i := 2) X.1 [(2, .int (iO q1)), (0, .ref (ad 9)), (1, .int (iO a0))] hl rfl rfl (by decide) rfl dX4_row_7 (fun ls hl => ?_)
  refine z_iload_n (pc := 8) X.1 hl 0 rfl rfl dX4_row_8 ?_
  obtain ⟨g2, h⟩ := z_guard h
  refine z_if_ne (pc := 9) (tgt := 27) X.1 dX4_row_9 (by decide) g2 h (fun c15 h => ?_) (fun c15 h => ?_)
  · exact CJ4_row_27 X N a0 q1 μ h _ _ ls hW (lv_sub hl [1, 2, 0] rfl)
  · refine z_aload_n (pc := 12) X.1 hl 1 rfl rfl dX4_row_12 ?_
    refine z_get7 (pc := 13) X.1 hW rfl iX4_row_7 9 (by decide) rfl (by decide +kernel) dX4_row_13 ?_
    refine z_aload_n (pc := 16) X.1 hl 1 rfl rfl dX4_row_16 ?_
    refine z_get7 (pc := 17) X.1 hW rfl iX4_row_7 5 (by decide) rfl (by decide +kernel) dX4_row_17 ?_
    refine z_alen (pc := 20) (i := 46) X.1 hW rfl dX4_row_20 ?_
    obtain ⟨g13, h⟩ := z_guard h
    refine z_icmp_lt (pc := 21) (tgt := 27) X.1 dX4_row_21 (by decide) ⟨g13, (by decide)⟩ h (fun c14 h => ?_) (fun c14 h => ?_)
    · exact CJ4_row_27 X N a0 q1 μ h _ _ ls hW (lv_sub hl [1, 2, 0] rfl)
    · refine z_bipush (pc := 24) X.1 dX4_row_24 (by decide) ?_
      refine z_istore_n (pc := 26) (i := 2) X.1 [(2, .int (iO (-6))), (0, .ref (ad 9)), (1, .int (iO a0))] hl rfl rfl (by decide) rfl dX4_row_26 (fun ls hl => ?_)
      exact CJ4_row_27 X N a0 (-6) μ h _ _ ls hW (lv_sub hl [1, 2, 0] rfl)
-- X4_judge
theorem iX4_judge_5 : ∀ w ∈ wsX20, w ∈ wsX4_judge := by decide +kernel
theorem iX4_judge_7 : ∀ w ∈ wsX40, w ∈ wsX4_judge := by decide +kernel
section
variable {p : Program} {l : Launch} {e : Env} {s : State} {m : MethodId} {args : Array Value} {below : List Frame} {meth : Method} {c : Code} {D : va_G} {cy : ClassId × ClassId} {ad : Nat → Nat} {A : Nat → Prop} {res : (Int × mm)}
theorem CJ4_judge_65 (X : zX p s m args meth c cX4_judge RX4 wsX4_judge 3 D cy ad (some .int) A) (N : Nat) : ∀ (x1 : Int) (μ : mm), J4_judge_65 N x1 μ = some res → ∀ (H : Heap) (locs : List Loc) (ls : Array Slot), zW D cy ad A s.heap μ H locs → lv_has ls 3 [(0, .ref (ad 9)), (1, .int (iO x1))] → W p l e (rmD 1) s m args below meth c H locs 0 0 (MQ below (zQi D cy ad A res.1 res.2) args s 0 0 A) (F0 m 65 ls []) := by
  intro x1 μ h H locs ls hW hl
  rw [J4_judge_65] at h
  refine z_aload_n (pc := 65) X.1 hl 0 rfl rfl dX4_judge_65 ?_
  refine z_iconst (pc := 66) X.1 dX4_judge_66 ?_
  obtain ⟨μ2, eμ2, h⟩ := z_bnd h
  refine z_put7_9 (pc := 67) X.1 hW rfl iX4_judge_7 (by decide +kernel) dX4_judge_67 (fun H locs hW => ?_)
  rw [← eμ2] at hW
  refine z_iload_n (pc := 70) X.1 hl 1 rfl rfl dX4_judge_70 ?_
  exact z_iret (pc := 71) X hW (z_p1 h) (z_p2 h) dX4_judge_71
theorem CJ4_judge_59 (X : zX p s m args meth c cX4_judge RX4 wsX4_judge 3 D cy ad (some .int) A) (N : Nat) (rec5 : Int → Int → mm → Option (Int × mm)) (hrec5 : ∀ (x1 : Int) (x2 : Int) (μ : mm), rec5 x1 x2 μ = some res → ∀ (H : Heap) (locs : List Loc) (ls : Array Slot), zW D cy ad A s.heap μ H locs → lv_has ls 3 [(0, .ref (ad 9)), (1, .int (iO x1)), (2, .int (iO x2))] → W p l e (rmD 1) s m args below meth c H locs 0 0 (MQ below (zQi D cy ad A res.1 res.2) args s 0 0 A) (F0 m 5 ls [])) : ∀ (x1 : Int) (x2 : Int) (μ : mm), J4_judge_59 N rec5 x1 x2 μ = some res → ∀ (H : Heap) (locs : List Loc) (ls : Array Slot), zW D cy ad A s.heap μ H locs → lv_has ls 3 [(0, .ref (ad 9)), (1, .int (iO x1)), (2, .int (iO x2))] → W p l e (rmD 1) s m args below meth c H locs 0 0 (MQ below (zQi D cy ad A res.1 res.2) args s 0 0 A) (F0 m 59 ls []) := by
  intro x1 x2 μ h H locs ls hW hl
  rw [J4_judge_59] at h
  refine z_iinc (pc := 59) (i := 2) X.1 [(2, .int (iO (x2 + 1))), (0, .ref (ad 9)), (1, .int (iO x1))] hl 2 rfl rfl (by decide) rfl dX4_judge_59 (fun ls hl => ?_)
  refine z_goto (pc := 62) (tgt := 5) X.1 dX4_judge_62 (by decide) ?_
  exact hrec5 x1 (x2 + 1) μ h _ _ ls hW (lv_sub hl [1, 2, 0] rfl)
theorem CJ4_judge_57 (X : zX p s m args meth c cX4_judge RX4 wsX4_judge 3 D cy ad (some .int) A) (N : Nat) (rec5 : Int → Int → mm → Option (Int × mm)) (hrec5 : ∀ (x1 : Int) (x2 : Int) (μ : mm), rec5 x1 x2 μ = some res → ∀ (H : Heap) (locs : List Loc) (ls : Array Slot), zW D cy ad A s.heap μ H locs → lv_has ls 3 [(0, .ref (ad 9)), (1, .int (iO x1)), (2, .int (iO x2))] → W p l e (rmD 1) s m args below meth c H locs 0 0 (MQ below (zQi D cy ad A res.1 res.2) args s 0 0 A) (F0 m 5 ls [])) : ∀ (x2 : Int) (μ : mm), J4_judge_57 N rec5 x2 μ = some res → ∀ (H : Heap) (locs : List Loc) (ls : Array Slot), zW D cy ad A s.heap μ H locs → lv_has ls 3 [(0, .ref (ad 9)), (2, .int (iO x2))] → W p l e (rmD 1) s m args below meth c H locs 0 0 (MQ below (zQi D cy ad A res.1 res.2) args s 0 0 A) (F0 m 57 ls []) := by
  intro x2 μ h H locs ls hW hl
  rw [J4_judge_57] at h
  refine z_iload_n (pc := 57) X.1 hl 1 rfl rfl dX4_judge_57 ?_
  refine z_istore_n (pc := 58) (i := 1) X.1 [(1, .int (iO x2)), (0, .ref (ad 9)), (2, .int (iO x2))] hl rfl rfl (by decide) rfl dX4_judge_58 (fun ls hl => ?_)
  exact CJ4_judge_59 X N rec5 hrec5 x2 x2 μ h _ _ ls hW (lv_sub hl [1, 0, 2] rfl)
theorem CL4_judge_5 (X : zX p s m args meth c cX4_judge RX4 wsX4_judge 3 D cy ad (some .int) A) (N : Nat) : ∀ (k : Nat) (x1 : Int) (x2 : Int) (μ : mm), L4_judge_5 N k x1 x2 μ = some res → ∀ (H : Heap) (locs : List Loc) (ls : Array Slot), zW D cy ad A s.heap μ H locs → lv_has ls 3 [(0, .ref (ad 9)), (1, .int (iO x1)), (2, .int (iO x2))] → W p l e (rmD 1) s m args below meth c H locs 0 0 (MQ below (zQi D cy ad A res.1 res.2) args s 0 0 A) (F0 m 5 ls []) := by
  intro k
  induction k with
  | zero =>
    intro x1 x2 μ h H locs ls hW hl
    exact absurd h (by rw [L4_judge_5]; exact fun z => by cases z)
  | succ k ih =>
    intro x1 x2 μ h H locs ls hW hl
    rw [L4_judge_5] at h
    refine z_iload_n (pc := 5) X.1 hl 2 rfl rfl dX4_judge_5 ?_
    refine z_aload_n (pc := 6) X.1 hl 0 rfl rfl dX4_judge_6 ?_
    refine z_get7 (pc := 7) X.1 hW rfl iX4_judge_7 9 (by decide) rfl (by decide +kernel) dX4_judge_7 ?_
    obtain ⟨g1, h⟩ := z_guard h
    refine z_icmp_ge (pc := 10) (tgt := 65) X.1 dX4_judge_10 (by decide) ⟨g1.1, g1.2⟩ h (fun c15 h => ?_) (fun c15 h => ?_)
    · exact CJ4_judge_65 X N x1 μ h _ _ ls hW (lv_sub hl [0, 1] rfl)
    · refine z_iload_n (pc := 13) X.1 hl 2 rfl rfl dX4_judge_13 ?_
      refine z_aload_n (pc := 14) X.1 hl 0 rfl rfl dX4_judge_14 ?_
      refine z_get7 (pc := 15) X.1 hW rfl iX4_judge_7 5 (by decide) rfl (by decide +kernel) dX4_judge_15 ?_
      refine z_alen (pc := 18) (i := 46) X.1 hW rfl dX4_judge_18 ?_
      obtain ⟨g3, h⟩ := z_guard h
      refine z_icmp_ge (pc := 19) (tgt := 65) X.1 dX4_judge_19 (by decide) ⟨g3, (by decide)⟩ h (fun c14 h => ?_) (fun c14 h => ?_)
      · exact CJ4_judge_65 X N x1 μ h _ _ ls hW (lv_sub hl [0, 1] rfl)
      · refine z_iload_n (pc := 22) X.1 hl 1 rfl rfl dX4_judge_22 ?_
        obtain ⟨g4, h⟩ := z_guard h
        refine z_if_ge (pc := 23) (tgt := 65) X.1 dX4_judge_23 (by decide) g4 h (fun c13 h => ?_) (fun c13 h => ?_)
        · exact CJ4_judge_65 X N x1 μ h _ _ ls hW (lv_sub hl [0, 1] rfl)
        · refine z_aload_n (pc := 26) X.1 hl 0 rfl rfl dX4_judge_26 ?_
          refine z_get7 (pc := 27) X.1 hW rfl iX4_judge_7 0 (by decide) rfl (by decide +kernel) dX4_judge_27 ?_
          refine z_iload_n (pc := 30) X.1 hl 2 rfl rfl dX4_judge_30 ?_
          obtain ⟨q5, eq5, h⟩ := z_bind h
          refine z_callV3I (pc := 31) (n := 1) (As := [.int (iO x2)]) (rest := []) X hW hl rfl (C1_knows l N 10 x2 rfl μ eq5) gX4_judge_X1_knows rfl (by decide +kernel) rfl (by decide) rfl (Nat.le_of_ble_eq_true rfl) dX4_judge_31 (fun H locs hW => ?_)
          obtain ⟨g6, h⟩ := z_guard h
          refine z_if_eq (pc := 34) (tgt := 57) X.1 dX4_judge_34 (by decide) g6 h (fun c12 h => ?_) (fun c12 h => ?_)
          · exact CJ4_judge_57 X N (L4_judge_5 N k) ih x2 μ h _ _ ls hW (lv_sub hl [0, 2] rfl)
          · refine z_aload_n (pc := 37) X.1 hl 0 rfl rfl dX4_judge_37 ?_
            refine z_get7 (pc := 38) X.1 hW rfl iX4_judge_7 0 (by decide) rfl (by decide +kernel) dX4_judge_38 ?_
            refine z_iload_n (pc := 41) X.1 hl 2 rfl rfl dX4_judge_41 ?_
            obtain ⟨q7, eq7, h⟩ := z_bind h
            obtain ⟨g8, h⟩ := z_guard h
            refine z_callV3R (pc := 42) (n := 1) (As := [.int (iO x2)]) (rest := []) X hW hl rfl (C1_at l N 10 x2 rfl μ eq7) gX4_judge_X1_at rfl (by decide +kernel) rfl (by decide) rfl (Nat.le_of_ble_eq_true rfl) dX4_judge_42 (fun H locs hW => ?_)
            refine z_get5 (pc := 45) X.1 hW g8 iX4_judge_5 3 (by decide) rfl (by decide +kernel) dX4_judge_45 ?_
            refine z_aload_n (pc := 48) X.1 hl 0 rfl rfl dX4_judge_48 ?_
            refine z_get7 (pc := 49) X.1 hW rfl iX4_judge_7 5 (by decide) rfl (by decide +kernel) dX4_judge_49 ?_
            refine z_iload_n (pc := 52) X.1 hl 2 rfl rfl dX4_judge_52 ?_
            obtain ⟨g9, h⟩ := z_guard h
            refine z_iald (pc := 53) X.1 hW rfl ⟨g9.1, g9.2⟩ dX4_judge_53 ?_
            obtain ⟨g10, h⟩ := z_guard h
            refine z_icmp_eq (pc := 54) (tgt := 59) X.1 dX4_judge_54 (by decide) ⟨g10.1, g10.2⟩ h (fun c11 h => ?_) (fun c11 h => ?_)
            · exact CJ4_judge_59 X N (L4_judge_5 N k) ih x1 x2 μ h _ _ ls hW (lv_sub hl [0, 1, 2] rfl)
            · exact CJ4_judge_57 X N (L4_judge_5 N k) ih x2 μ h _ _ ls hW (lv_sub hl [0, 2] rfl)
end
theorem C4_judge (l : Launch) {D : va_G} {cy : ClassId × ClassId} {ad : Nat → Nat} (N : Nat)  (μ : mm) {res : (Int × mm)} (h : M4_judge N μ = some res) : zI l yX4_judge wsX4_judge 1 D cy ad [.ref (ad 9)] μ res.1 res.2 := by
  refine zI.of RX4 rfl (by decide) rfl (Nat.le_of_ble_eq_true rfl) ?_
  intro p e s m args below meth c A X hW ls hl
  have hl : lv_has ls 3 [(0, .ref (ad 9))] := hl
  unfold M4_judge at h
  refine z_bipush (pc := 0) X.1 dX4_judge_0 (by decide) ?_
  refine z_istore_n (pc := 2) (i := 1) X.1 [(1, .int (iO (-9))), (0, .ref (ad 9))] hl rfl rfl (by decide) rfl dX4_judge_2 (fun ls hl => ?_)
  refine z_iconst (pc := 3) X.1 dX4_judge_3 ?_
  refine z_istore_n (pc := 4) (i := 2) X.1 [(2, .int (iO 0)), (1, .int (iO (-9))), (0, .ref (ad 9))] hl rfl rfl (by decide) rfl dX4_judge_4 (fun ls hl => ?_)
  exact CL4_judge_5 X N N (-9) 0 μ h _ _ ls hW (lv_sub hl [2, 1, 0] rfl)
-- X4_clear
theorem iX4_clear_7 : ∀ w ∈ wsX40, w ∈ wsX4_clear := by decide +kernel
theorem C4_clear (l : Launch) {D : va_G} {cy : ClassId × ClassId} {ad : Nat → Nat} (N : Nat)  (μ : mm) {res : (Int × mm)} (h : M4_clear N μ = some res) : zI l yX4_clear wsX4_clear 0 D cy ad [.ref (ad 9)] μ res.1 res.2 := by
  refine zI.of RX4 rfl (by decide) rfl (Nat.le_of_ble_eq_true rfl) ?_
  intro p e s m args below meth c A X hW ls hl
  have hl : lv_has ls 2 [(0, .ref (ad 9))] := hl
  unfold M4_clear at h
  refine z_aload_n (pc := 0) X.1 hl 0 rfl rfl dX4_clear_0 ?_
  refine z_get7 (pc := 1) X.1 hW rfl iX4_clear_7 9 (by decide) rfl (by decide +kernel) dX4_clear_1 ?_
  obtain ⟨w1, ew1, h⟩ := z_bnd h
  refine z_istore_n (pc := 4) (i := 1) X.1 [(1, .int (iO w1)), (0, .ref (ad 9))] hl ew1 rfl (by decide) rfl dX4_clear_4 (fun ls hl => ?_)
  refine z_aload_n (pc := 5) X.1 hl 1 rfl rfl dX4_clear_5 ?_
  refine z_iconst (pc := 6) X.1 dX4_clear_6 ?_
  obtain ⟨μ2, eμ2, h⟩ := z_bnd h
  refine z_put7_9 (pc := 7) X.1 hW rfl iX4_clear_7 (by decide +kernel) dX4_clear_7 (fun H locs hW => ?_)
  rw [← eμ2] at hW
  refine z_iload_n (pc := 10) X.1 hl 0 rfl rfl dX4_clear_10 ?_
  exact z_iret (pc := 11) X hW (z_p1 h) (z_p2 h) dX4_clear_11
-- X4_lots
theorem iX4_lots_3 : ∀ w ∈ wsX10, w ∈ wsX4_lots := by decide +kernel
theorem iX4_lots_5 : ∀ w ∈ wsX20, w ∈ wsX4_lots := by decide +kernel
theorem iX4_lots_7 : ∀ w ∈ wsX40, w ∈ wsX4_lots := by decide +kernel
section
variable {p : Program} {l : Launch} {e : Env} {s : State} {m : MethodId} {args : Array Value} {below : List Frame} {meth : Method} {c : Code} {D : va_G} {cy : ClassId × ClassId} {ad : Nat → Nat} {A : Nat → Prop} {res : (Int × mm)}
theorem CJ4_lots_159 (X : zX p s m args meth c cX4_lots RX4 wsX4_lots 9 D cy ad (some .int) A) (N : Nat) (rec39 : Int → Int → Int → Int → Int → mm → Option (Int × mm)) (hrec39 : ∀ (x1 : Int) (x3 : Int) (x5 : Int) (x6 : Int) (x7 : Int) (μ : mm), rec39 x1 x3 x5 x6 x7 μ = some res → ∀ (H : Heap) (locs : List Loc) (ls : Array Slot), zW D cy ad A s.heap μ H locs → lv_has ls 9 [(0, .ref (ad 9)), (1, .int (iO x1)), (3, .int (iO x3)), (5, .int (iO x5)), (6, .int (iO x6)), (7, .int (iO x7))] → W p l e (rmD 3) s m args below meth c H locs 0 0 (MQ below (zQi D cy ad A res.1 res.2) args s 0 0 A) (F0 m 39 ls [])) : ∀ (x1 : Int) (x3 : Int) (x5 : Int) (x7 : Int) (y0 : Int) (y1 : Int) (μ : mm), J4_lots_159 N rec39 x1 x3 x5 x7 y0 y1 μ = some res → ∀ (H : Heap) (locs : List Loc) (ls : Array Slot), zW D cy ad A s.heap μ H locs → lv_has ls 9 [(0, .ref (ad 9)), (1, .int (iO x1)), (3, .int (iO x3)), (5, .int (iO x5)), (7, .int (iO x7))] → W p l e (rmD 3) s m args below meth c H locs 0 0 (MQ below (zQi D cy ad A res.1 res.2) args s 0 0 A) (F0 m 159 ls [.int (iO y0), .int (iO y1)]) := by
  intro x1 x3 x5 x7 y0 y1 μ h H locs ls hW hl
  rw [J4_lots_159] at h
  refine z_iadd (pc := 159) X.1 dX4_lots_159 ?_
  obtain ⟨w12, ew12, h⟩ := z_bnd h
  refine z_istore (pc := 160) (i := 6) X.1 [(6, .int (iO w12)), (0, .ref (ad 9)), (1, .int (iO x1)), (3, .int (iO x3)), (5, .int (iO x5)), (7, .int (iO x7))] hl ew12 (by decide) rfl dX4_lots_160 (fun ls hl => ?_)
  refine z_iinc (pc := 162) (i := 7) X.1 [(7, .int (iO (x7 + 1))), (6, .int (iO w12)), (0, .ref (ad 9)), (1, .int (iO x1)), (3, .int (iO x3)), (5, .int (iO x5))] hl 5 rfl rfl (by decide) rfl dX4_lots_162 (fun ls hl => ?_)
  refine z_goto (pc := 165) (tgt := 39) X.1 dX4_lots_165 (by decide) ?_
  exact hrec39 x1 x3 x5 w12 (x7 + 1) μ h _ _ ls hW (lv_sub hl [2, 3, 4, 5, 1, 0] rfl)
theorem CL4_lots_59 (X : zX p s m args meth c cX4_lots RX4 wsX4_lots 9 D cy ad (some .int) A) (N : Nat) (rec39 : Int → Int → Int → Int → Int → mm → Option (Int × mm)) (hrec39 : ∀ (x1 : Int) (x3 : Int) (x5 : Int) (x6 : Int) (x7 : Int) (μ : mm), rec39 x1 x3 x5 x6 x7 μ = some res → ∀ (H : Heap) (locs : List Loc) (ls : Array Slot), zW D cy ad A s.heap μ H locs → lv_has ls 9 [(0, .ref (ad 9)), (1, .int (iO x1)), (3, .int (iO x3)), (5, .int (iO x5)), (6, .int (iO x6)), (7, .int (iO x7))] → W p l e (rmD 3) s m args below meth c H locs 0 0 (MQ below (zQi D cy ad A res.1 res.2) args s 0 0 A) (F0 m 39 ls [])) : ∀ (k : Nat) (x1 : Int) (x3 : Int) (x5 : Int) (x6 : Int) (x7 : Int) (x8 : Int) (μ : mm), L4_lots_59 N rec39 k x1 x3 x5 x6 x7 x8 μ = some res → ∀ (H : Heap) (locs : List Loc) (ls : Array Slot), zW D cy ad A s.heap μ H locs → lv_has ls 9 [(0, .ref (ad 9)), (1, .int (iO x1)), (3, .int (iO x3)), (5, .int (iO x5)), (6, .int (iO x6)), (7, .int (iO x7)), (8, .int (iO x8))] → W p l e (rmD 3) s m args below meth c H locs 0 0 (MQ below (zQi D cy ad A res.1 res.2) args s 0 0 A) (F0 m 59 ls []) := by
  intro k
  induction k with
  | zero =>
    intro x1 x3 x5 x6 x7 x8 μ h H locs ls hW hl
    exact absurd h (by rw [L4_lots_59]; exact fun z => by cases z)
  | succ k ih =>
    intro x1 x3 x5 x6 x7 x8 μ h H locs ls hW hl
    rw [L4_lots_59] at h
    refine z_iload (pc := 59) X.1 hl 6 rfl dX4_lots_59 ?_
    refine z_aload_n (pc := 61) X.1 hl 0 rfl rfl dX4_lots_61 ?_
    refine z_get7 (pc := 62) X.1 hW rfl iX4_lots_7 1 (by decide) rfl (by decide +kernel) dX4_lots_62 ?_
    refine z_get3 (pc := 65) X.1 hW rfl iX4_lots_3 2 (by decide) rfl (by decide +kernel) dX4_lots_65 ?_
    obtain ⟨g7, h⟩ := z_guard h
    refine z_icmp_ge (pc := 68) (tgt := 111) X.1 dX4_lots_68 (by decide) ⟨g7.1, g7.2⟩ h (fun c22 h => ?_) (fun c22 h => ?_)
    · refine z_aload_n (pc := 111) X.1 hl 0 rfl rfl dX4_lots_111 ?_
      refine z_get7 (pc := 112) X.1 hW rfl iX4_lots_7 1 (by decide) rfl (by decide +kernel) dX4_lots_112 ?_
      refine z_bipush (pc := 115) X.1 dX4_lots_115 (by decide) ?_
      obtain ⟨q8, eq8, h⟩ := z_bind h
      refine z_callV3V (pc := 117) (n := 1) (As := [.int (iO 20)]) (rest := []) X hW hl rfl (C1_daysGoBy l N 21 20 rfl μ eq8) gX4_lots_X1_daysGoBy rfl (by decide +kernel) rfl (by decide) rfl (Nat.le_of_ble_eq_true rfl) dX4_lots_117 (fun H locs hW => ?_)
      refine z_iload (pc := 120) X.1 hl 4 rfl dX4_lots_120 ?_
      refine z_iload_n (pc := 122) X.1 hl 2 rfl rfl dX4_lots_122 ?_
      obtain ⟨g9, h⟩ := z_guard h
      refine z_if_ne (pc := 123) (tgt := 144) X.1 dX4_lots_123 (by decide) g9 h (fun c15 h => ?_) (fun c15 h => ?_)
      · refine z_aload_n (pc := 144) X.1 hl 0 rfl rfl dX4_lots_144 ?_
        refine z_get7 (pc := 145) X.1 hW rfl iX4_lots_7 1 (by decide) rfl (by decide +kernel) dX4_lots_145 ?_
        obtain ⟨q10, eq10, h⟩ := z_bind h
        refine z_callV3I (pc := 148) (n := 0) (As := []) (rest := [.int (iO x6)]) X hW hl rfl (C1_allShort l N 21 rfl q8 eq10) gX4_lots_X1_allShort rfl (by decide +kernel) rfl (by decide) rfl (Nat.le_of_ble_eq_true rfl) dX4_lots_148 (fun H locs hW => ?_)
        refine z_aload_n (pc := 151) X.1 hl 0 rfl rfl dX4_lots_151 ?_
        refine z_get7 (pc := 152) X.1 hW rfl iX4_lots_7 0 (by decide) rfl (by decide +kernel) dX4_lots_152 ?_
        obtain ⟨q11, eq11, h⟩ := z_bind h
        refine z_callV3I (pc := 155) (n := 0) (As := []) (rest := [.int (iO q10), .int (iO x6)]) X hW hl rfl (C1_allShort l N 10 rfl q8 eq11) gX4_lots_X1_allShort rfl (by decide +kernel) rfl (by decide) rfl (Nat.le_of_ble_eq_true rfl) dX4_lots_155 (fun H locs hW => ?_)
        refine z_isub (pc := 158) X.1 dX4_lots_158 ?_
        exact CJ4_lots_159 X N rec39 hrec39 x1 x3 x5 x7 (q10 - q11) x6 q8 h _ _ ls hW (lv_sub hl [0, 1, 2, 3, 5] rfl)
      · refine z_aload_n (pc := 126) X.1 hl 0 rfl rfl dX4_lots_126 ?_
        refine z_get7 (pc := 127) X.1 hW rfl iX4_lots_7 1 (by decide) rfl (by decide +kernel) dX4_lots_127 ?_
        obtain ⟨q13, eq13, h⟩ := z_bind h
        refine z_callV3I (pc := 130) (n := 0) (As := []) (rest := [.int (iO x6)]) X hW hl rfl (C1_allThrough l N 21 rfl q8 eq13) gX4_lots_X1_allThrough rfl (by decide +kernel) rfl (by decide) rfl (Nat.le_of_ble_eq_true rfl) dX4_lots_130 (fun H locs hW => ?_)
        refine z_aload_n (pc := 133) X.1 hl 0 rfl rfl dX4_lots_133 ?_
        refine z_get7 (pc := 134) X.1 hW rfl iX4_lots_7 0 (by decide) rfl (by decide +kernel) dX4_lots_134 ?_
        obtain ⟨q14, eq14, h⟩ := z_bind h
        refine z_callV3I (pc := 137) (n := 0) (As := []) (rest := [.int (iO q13), .int (iO x6)]) X hW hl rfl (C1_allThrough l N 10 rfl q8 eq14) gX4_lots_X1_allThrough rfl (by decide +kernel) rfl (by decide) rfl (Nat.le_of_ble_eq_true rfl) dX4_lots_137 (fun H locs hW => ?_)
        refine z_isub (pc := 140) X.1 dX4_lots_140 ?_
        refine z_goto (pc := 141) (tgt := 159) X.1 dX4_lots_141 (by decide) ?_
        exact CJ4_lots_159 X N rec39 hrec39 x1 x3 x5 x7 (q13 - q14) x6 q8 h _ _ ls hW (lv_sub hl [0, 1, 2, 3, 5] rfl)
    · refine z_iload (pc := 71) X.1 hl 3 rfl dX4_lots_71 ?_
      refine z_ldc (pc := 73) (n := 1664525) X.1 (by decide +kernel) dX4_lots_73 ?_
      refine z_imul (pc := 75) X.1 dX4_lots_75 ?_
      refine z_ldc (pc := 76) (n := 1013904223) X.1 (by decide +kernel) dX4_lots_76 ?_
      refine z_iadd (pc := 78) X.1 dX4_lots_78 ?_
      obtain ⟨w16, ew16, h⟩ := z_bnd h
      refine z_istore (pc := 79) (i := 5) X.1 [(5, .int (iO w16)), (0, .ref (ad 9)), (1, .int (iO x1)), (3, .int (iO x3)), (6, .int (iO x6)), (7, .int (iO x7)), (8, .int (iO x8))] hl ew16 (by decide) rfl dX4_lots_79 (fun ls hl => ?_)
      refine z_aload_n (pc := 81) X.1 hl 1 rfl rfl dX4_lots_81 ?_
      refine z_get7 (pc := 82) X.1 hW rfl iX4_lots_7 1 (by decide) rfl (by decide +kernel) dX4_lots_82 ?_
      refine z_iload (pc := 85) X.1 hl 6 rfl dX4_lots_85 ?_
      obtain ⟨q17, eq17, h⟩ := z_bind h
      obtain ⟨g18, h⟩ := z_guard h
      refine z_callV3R (pc := 87) (n := 1) (As := [.int (iO x8)]) (rest := []) X hW hl rfl (C1_at l N 21 x8 rfl μ eq17) gX4_lots_X1_at rfl (by decide +kernel) rfl (by decide) rfl (Nat.le_of_ble_eq_true rfl) dX4_lots_87 (fun H locs hW => ?_)
      refine z_iload (pc := 90) X.1 hl 0 rfl dX4_lots_90 ?_
      refine z_ldc (pc := 92) (n := 2147483647) X.1 (by decide +kernel) dX4_lots_92 ?_
      refine z_iand2147483647 (pc := 94) X.1 dX4_lots_94 ?_
      refine z_sipush (pc := 95) X.1 dX4_lots_95 (by decide) ?_
      obtain ⟨g19, h⟩ := z_guard h
      refine z_idiv (pc := 98) X.1 dX4_lots_98 ⟨g19.1, (by decide), g19.2, (by decide)⟩ ?_
      refine z_bipush (pc := 99) X.1 dX4_lots_99 (by decide) ?_
      obtain ⟨g20, h⟩ := z_guard h
      refine z_irem (pc := 101) X.1 dX4_lots_101 ⟨g20.1, (by decide), g20.2, (by decide)⟩ ?_
      obtain ⟨μ21, eμ21, h⟩ := z_bnd h
      refine z_put5_2 (pc := 102) X.1 hW g18 iX4_lots_5 (by decide +kernel) dX4_lots_102 (fun H locs hW => ?_)
      rw [← eμ21] at hW
      refine z_iinc (pc := 105) (i := 8) X.1 [(8, .int (iO (x8 + 1))), (5, .int (iO w16)), (0, .ref (ad 9)), (1, .int (iO x1)), (3, .int (iO x3)), (6, .int (iO x6)), (7, .int (iO x7))] hl 6 rfl rfl (by decide) rfl dX4_lots_105 (fun ls hl => ?_)
      refine z_goto (pc := 108) (tgt := 59) X.1 dX4_lots_108 (by decide) ?_
      exact ih x1 x3 w16 x6 x7 (x8 + 1) μ21 h _ _ ls hW (lv_sub hl [2, 3, 4, 1, 5, 6, 0] rfl)
theorem CL4_lots_39 (X : zX p s m args meth c cX4_lots RX4 wsX4_lots 9 D cy ad (some .int) A) (N : Nat) : ∀ (k : Nat) (x1 : Int) (x3 : Int) (x5 : Int) (x6 : Int) (x7 : Int) (μ : mm), L4_lots_39 N k x1 x3 x5 x6 x7 μ = some res → ∀ (H : Heap) (locs : List Loc) (ls : Array Slot), zW D cy ad A s.heap μ H locs → lv_has ls 9 [(0, .ref (ad 9)), (1, .int (iO x1)), (3, .int (iO x3)), (5, .int (iO x5)), (6, .int (iO x6)), (7, .int (iO x7))] → W p l e (rmD 3) s m args below meth c H locs 0 0 (MQ below (zQi D cy ad A res.1 res.2) args s 0 0 A) (F0 m 39 ls []) := by
  intro k
  induction k with
  | zero =>
    intro x1 x3 x5 x6 x7 μ h H locs ls hW hl
    exact absurd h (by rw [L4_lots_39]; exact fun z => by cases z)
  | succ k ih =>
    intro x1 x3 x5 x6 x7 μ h H locs ls hW hl
    rw [L4_lots_39] at h
    refine z_iload (pc := 39) X.1 hl 5 rfl dX4_lots_39 ?_
    refine z_iload_n (pc := 41) X.1 hl 1 rfl rfl dX4_lots_41 ?_
    obtain ⟨g5, h⟩ := z_guard h
    refine z_icmp_ge (pc := 42) (tgt := 168) X.1 dX4_lots_42 (by decide) ⟨g5.1, g5.2⟩ h (fun c23 h => ?_) (fun c23 h => ?_)
    · refine z_iload (pc := 168) X.1 hl 4 rfl dX4_lots_168 ?_
      exact z_iret (pc := 170) X hW (z_p1 h) (z_p2 h) dX4_lots_170
    · refine z_aload_n (pc := 45) X.1 hl 0 rfl rfl dX4_lots_45 ?_
      refine z_get7 (pc := 46) X.1 hW rfl iX4_lots_7 1 (by decide) rfl (by decide +kernel) dX4_lots_46 ?_
      refine z_aload_n (pc := 49) X.1 hl 0 rfl rfl dX4_lots_49 ?_
      refine z_get7 (pc := 50) X.1 hW rfl iX4_lots_7 0 (by decide) rfl (by decide +kernel) dX4_lots_50 ?_
      obtain ⟨q6, eq6, h⟩ := z_bind h
      refine z_callV3V (pc := 53) (n := 1) (As := [.ref (ad 10)]) (rest := []) X hW hl rfl (C1_takeFrom l N 21 10 rfl rfl μ eq6) gX4_lots_X1_takeFrom rfl (by decide +kernel) rfl (by decide) rfl (Nat.le_of_ble_eq_true rfl) dX4_lots_53 (fun H locs hW => ?_)
      refine z_iconst (pc := 56) X.1 dX4_lots_56 ?_
      refine z_istore (pc := 57) (i := 8) X.1 [(8, .int (iO 0)), (0, .ref (ad 9)), (1, .int (iO x1)), (3, .int (iO x3)), (5, .int (iO x5)), (6, .int (iO x6)), (7, .int (iO x7))] hl rfl (by decide) rfl dX4_lots_57 (fun ls hl => ?_)
      exact CL4_lots_59 X N (L4_lots_39 N k) ih N x1 x3 x5 x6 x7 0 q6 h _ _ ls hW (lv_sub hl [1, 2, 3, 4, 5, 6, 0] rfl)
end
theorem C4_lots (l : Launch) {D : va_G} {cy : ClassId × ClassId} {ad : Nat → Nat} (N : Nat) (a0 : Int) (a1 : Int) (a2 : Int) (μ : mm) {res : (Int × mm)} (h : M4_lots N a0 a1 a2 μ = some res) : zI l yX4_lots wsX4_lots 3 D cy ad [.ref (ad 9), .int (iO a0), .int (iO a1), .int (iO a2)] μ res.1 res.2 := by
  refine zI.of RX4 rfl (by decide) rfl (Nat.le_of_ble_eq_true rfl) ?_
  intro p e s m args below meth c A X hW ls hl
  have hl : lv_has ls 9 [(0, .ref (ad 9)), (1, .int (iO a0)), (2, .int (iO a1)), (3, .int (iO a2))] := hl
  unfold M4_lots at h
  refine z_iload_n (pc := 0) X.1 hl 1 rfl rfl dX4_lots_0 ?_
  refine z_iconst (pc := 1) X.1 dX4_lots_1 ?_
  refine z_bipush (pc := 2) X.1 dX4_lots_2 (by decide) ?_
  obtain ⟨q1, eq1, h⟩ := z_bind h
  refine z_callSI (pc := 4) (n := 3) (As := [.int (iO a0), .int (iO 1), .int (iO 20)]) (rest := []) X hW hl (C4_outside l N a0 1 20 μ eq1) gX4_lots_X4_outside rfl (by decide +kernel) rfl (by decide) rfl (Nat.le_of_ble_eq_true rfl) dX4_lots_4 (fun H locs hW => ?_)
  refine z_iload_n (pc := 7) X.1 hl 3 rfl rfl dX4_lots_7 ?_
  refine z_iconst (pc := 8) X.1 dX4_lots_8 ?_
  obtain ⟨q2, eq2, h⟩ := z_bind h
  refine z_callSI (pc := 9) (n := 2) (As := [.int (iO a2), .int (iO 1)]) (rest := [.int (iO q1)]) X hW hl (C4_other l N a2 1 μ eq2) gX4_lots_X4_other rfl (by decide +kernel) rfl (by decide) rfl (Nat.le_of_ble_eq_true rfl) dX4_lots_9 (fun H locs hW => ?_)
  refine z_iconst (pc := 12) X.1 dX4_lots_12 ?_
  obtain ⟨q3, eq3, h⟩ := z_bind h
  refine z_callSI (pc := 13) (n := 3) (As := [.int (iO q1), .int (iO q2), .int (iO 0)]) (rest := []) X hW hl (C4_firstOf l N q1 q2 0 μ eq3) gX4_lots_X4_firstOf rfl (by decide +kernel) rfl (by decide) rfl (Nat.le_of_ble_eq_true rfl) dX4_lots_13 (fun H locs hW => ?_)
  refine z_istore (pc := 16) (i := 4) X.1 [(4, .int (iO q3)), (0, .ref (ad 9)), (1, .int (iO a0)), (2, .int (iO a1)), (3, .int (iO a2))] hl rfl (by decide) rfl dX4_lots_16 (fun ls hl => ?_)
  refine z_iload (pc := 18) X.1 hl 0 rfl dX4_lots_18 ?_
  obtain ⟨g4, h⟩ := z_guard h
  refine z_if_eq (pc := 20) (tgt := 30) X.1 dX4_lots_20 (by decide) g4 h (fun c25 h => ?_) (fun c25 h => ?_)
  · refine z_iload_n (pc := 30) X.1 hl 3 rfl rfl dX4_lots_30 ?_
    refine z_istore (pc := 31) (i := 5) X.1 [(5, .int (iO a1)), (4, .int (iO q3)), (0, .ref (ad 9)), (1, .int (iO a0)), (2, .int (iO a1)), (3, .int (iO a2))] hl rfl (by decide) rfl dX4_lots_31 (fun ls hl => ?_)
    refine z_iconst (pc := 33) X.1 dX4_lots_33 ?_
    refine z_istore (pc := 34) (i := 6) X.1 [(6, .int (iO 0)), (5, .int (iO a1)), (4, .int (iO q3)), (0, .ref (ad 9)), (1, .int (iO a0)), (2, .int (iO a1)), (3, .int (iO a2))] hl rfl (by decide) rfl dX4_lots_34 (fun ls hl => ?_)
    refine z_iconst (pc := 36) X.1 dX4_lots_36 ?_
    refine z_istore (pc := 37) (i := 7) X.1 [(7, .int (iO 0)), (6, .int (iO 0)), (5, .int (iO a1)), (4, .int (iO q3)), (0, .ref (ad 9)), (1, .int (iO a0)), (2, .int (iO a1)), (3, .int (iO a2))] hl rfl (by decide) rfl dX4_lots_37 (fun ls hl => ?_)
    exact CL4_lots_39 X N N a0 a2 a1 0 0 μ h _ _ ls hW (lv_sub hl [4, 5, 7, 2, 1, 0] rfl)
  · refine z_aload_n (pc := 23) X.1 hl 1 rfl rfl dX4_lots_23 ?_
    refine z_iload (pc := 24) X.1 hl 0 rfl dX4_lots_24 ?_
    obtain ⟨q24, eq24, h⟩ := z_bind h
    refine z_callV7I (pc := 26) (n := 1) (As := [.int (iO q3)]) (rest := []) X hW hl rfl (C4_refused l N q3 μ eq24) gX4_lots_X4_refused rfl (by decide +kernel) rfl (by decide) rfl (Nat.le_of_ble_eq_true rfl) dX4_lots_26 (fun H locs hW => ?_)
    exact z_iret (pc := 29) X hW (z_p1 h) (z_p2 h) dX4_lots_29
-- X4_image
theorem iX4_image_3 : ∀ w ∈ wsX10, w ∈ wsX4_image := by decide +kernel
theorem iX4_image_7 : ∀ w ∈ wsX40, w ∈ wsX4_image := by decide +kernel
theorem C4_image (l : Launch) {D : va_G} {cy : ClassId × ClassId} {ad : Nat → Nat} (N : Nat)  (μ : mm) {res : (Int × mm)} (h : M4_image N μ = some res) : zI l yX4_image wsX4_image 2 D cy ad [.ref (ad 9)] μ res.1 res.2 := by
  refine zI.of RX4 rfl (by decide) rfl (Nat.le_of_ble_eq_true rfl) ?_
  intro p e s m args below meth c A X hW ls hl
  have hl : lv_has ls 1 [(0, .ref (ad 9))] := hl
  unfold M4_image at h
  refine z_aload_n (pc := 0) X.1 hl 0 rfl rfl dX4_image_0 ?_
  refine z_get7 (pc := 1) X.1 hW rfl iX4_image_7 2 (by decide) rfl (by decide +kernel) dX4_image_1 ?_
  refine z_aload_n (pc := 4) X.1 hl 0 rfl rfl dX4_image_4 ?_
  refine z_get7 (pc := 5) X.1 hW rfl iX4_image_7 0 (by decide) rfl (by decide +kernel) dX4_image_5 ?_
  obtain ⟨q1, eq1, h⟩ := z_bind h
  refine z_callV3V (pc := 8) (n := 1) (As := [.ref (ad 10)]) (rest := []) X hW hl rfl (C1_takeFrom l N 32 10 rfl rfl μ eq1) gX4_image_X1_takeFrom rfl (by decide +kernel) rfl (by decide) rfl (Nat.le_of_ble_eq_true rfl) dX4_image_8 (fun H locs hW => ?_)
  refine z_aload_n (pc := 11) X.1 hl 0 rfl rfl dX4_image_11 ?_
  refine z_iconst (pc := 12) X.1 dX4_image_12 ?_
  obtain ⟨μ2, eμ2, h⟩ := z_bnd h
  refine z_put7_10 (pc := 13) X.1 hW rfl iX4_image_7 (by decide) (by decide +kernel) dX4_image_13 (fun H locs hW => ?_)
  rw [← eμ2] at hW
  refine z_aload_n (pc := 16) X.1 hl 0 rfl rfl dX4_image_16 ?_
  refine z_get7 (pc := 17) X.1 hW rfl iX4_image_7 0 (by decide) rfl (by decide +kernel) dX4_image_17 ?_
  refine z_get3 (pc := 20) X.1 hW rfl iX4_image_3 5 (by decide) rfl (by decide +kernel) dX4_image_20 ?_
  exact z_iret (pc := 23) X hW (z_p1 h) (z_p2 h) dX4_image_23
-- X4_on
theorem iX4_on_3 : ∀ w ∈ wsX10, w ∈ wsX4_on := by decide +kernel
theorem iX4_on_7 : ∀ w ∈ wsX40, w ∈ wsX4_on := by decide +kernel
theorem C4_on (l : Launch) {D : va_G} {cy : ClassId × ClassId} {ad : Nat → Nat} (N : Nat)  (μ : mm) {res : (Int × mm)} (h : M4_on N μ = some res) : zI l yX4_on wsX4_on 2 D cy ad [.ref (ad 9)] μ res.1 res.2 := by
  refine zI.of RX4 rfl (by decide) rfl (Nat.le_of_ble_eq_true rfl) ?_
  intro p e s m args below meth c A X hW ls hl
  have hl : lv_has ls 1 [(0, .ref (ad 9))] := hl
  unfold M4_on at h
  refine z_aload_n (pc := 0) X.1 hl 0 rfl rfl dX4_on_0 ?_
  refine z_get7 (pc := 1) X.1 hW rfl iX4_on_7 10 (by decide) rfl (by decide +kernel) dX4_on_1 ?_
  obtain ⟨g1, h⟩ := z_guard h
  refine z_if_ne (pc := 4) (tgt := 14) X.1 dX4_on_4 (by decide) g1 h (fun c4 h => ?_) (fun c4 h => ?_)
  · refine z_aload_n (pc := 14) X.1 hl 0 rfl rfl dX4_on_14 ?_
    refine z_get7 (pc := 15) X.1 hW rfl iX4_on_7 0 (by decide) rfl (by decide +kernel) dX4_on_15 ?_
    refine z_aload_n (pc := 18) X.1 hl 0 rfl rfl dX4_on_18 ?_
    refine z_get7 (pc := 19) X.1 hW rfl iX4_on_7 2 (by decide) rfl (by decide +kernel) dX4_on_19 ?_
    obtain ⟨q2, eq2, h⟩ := z_bind h
    refine z_callV3V (pc := 22) (n := 1) (As := [.ref (ad 32)]) (rest := []) X hW hl rfl (C1_takeFrom l N 10 32 rfl rfl μ eq2) gX4_on_X1_takeFrom rfl (by decide +kernel) rfl (by decide) rfl (Nat.le_of_ble_eq_true rfl) dX4_on_22 (fun H locs hW => ?_)
    refine z_aload_n (pc := 25) X.1 hl 0 rfl rfl dX4_on_25 ?_
    refine z_get7 (pc := 26) X.1 hW rfl iX4_on_7 0 (by decide) rfl (by decide +kernel) dX4_on_26 ?_
    refine z_get3 (pc := 29) X.1 hW rfl iX4_on_3 5 (by decide) rfl (by decide +kernel) dX4_on_29 ?_
    exact z_iret (pc := 32) X hW (z_p1 h) (z_p2 h) dX4_on_32
  · refine z_aload_n (pc := 7) X.1 hl 0 rfl rfl dX4_on_7 ?_
    refine z_bipush (pc := 8) X.1 dX4_on_8 (by decide) ?_
    obtain ⟨q3, eq3, h⟩ := z_bind h
    refine z_callV7I (pc := 10) (n := 1) (As := [.int (iO (-3))]) (rest := []) X hW hl rfl (C4_refused l N (-3) μ eq3) gX4_on_X4_refused rfl (by decide +kernel) rfl (by decide) rfl (Nat.le_of_ble_eq_true rfl) dX4_on_10 (fun H locs hW => ?_)
    exact z_iret (pc := 13) X hW (z_p1 h) (z_p2 h) dX4_on_13
-- X4_count
theorem iX4_count_3 : ∀ w ∈ wsX10, w ∈ wsX4_count := by decide +kernel
theorem iX4_count_6 : ∀ w ∈ wsX30, w ∈ wsX4_count := by decide +kernel
theorem iX4_count_7 : ∀ w ∈ wsX40, w ∈ wsX4_count := by decide +kernel
section
variable {p : Program} {l : Launch} {e : Env} {s : State} {m : MethodId} {args : Array Value} {below : List Frame} {meth : Method} {c : Code} {D : va_G} {cy : ClassId × ClassId} {ad : Nat → Nat} {A : Nat → Prop} {res : Int} {μ0 : mm}
theorem CJ4_count_37 (X : zX p s m args meth c cX4_count RX4 wsX4_count 3 D cy ad (some .int) A) (N : Nat) : ∀ (x1 : Int) (μ : mm) (_ : μ = μ0), J4_count_37 N x1 μ = some res → ∀ (H : Heap) (locs : List Loc) (ls : Array Slot), zW D cy ad A s.heap μ H locs → lv_has ls 3 [(0, .ref (ad 9)), (1, .int (iO x1))] → W p l e (rmD 2) s m args below meth c H locs 0 0 (MQ below (zQi D cy ad A res μ0) args s 0 0 A) (F0 m 37 ls []) := by
  intro x1 μ em h H locs ls hW hl
  rw [J4_count_37] at h
  refine z_iload_n (pc := 37) X.1 hl 1 rfl rfl dX4_count_37 ?_
  obtain ⟨g2, h⟩ := z_guard h
  by_cases c3 : x1 = 0
  · rw [if_pos c3] at h
    refine z_tin (pc := 38) (v := 0) (tgt := 84) X.1 dX4_count_38 c3 (by decide) (by decide) rfl (by decide) ?_
    refine z_aload_n (pc := 84) X.1 hl 0 rfl rfl dX4_count_84 ?_
    refine z_get7 (pc := 85) X.1 hW rfl iX4_count_7 0 (by decide) rfl (by decide +kernel) dX4_count_85 ?_
    refine z_get3 (pc := 88) X.1 hW rfl iX4_count_3 2 (by decide) rfl (by decide +kernel) dX4_count_88 ?_
    exact z_iret (pc := 91) X hW (Option.some.inj h) em dX4_count_91
  · rw [if_neg c3] at h
    by_cases c4 : x1 = 1
    · rw [if_pos c4] at h
      refine z_tin (pc := 38) (v := 1) (tgt := 92) X.1 dX4_count_38 c4 (by decide) (by decide) rfl (by decide) ?_
      refine z_aload_n (pc := 92) X.1 hl 0 rfl rfl dX4_count_92 ?_
      refine z_get7 (pc := 93) X.1 hW rfl iX4_count_7 0 (by decide) rfl (by decide +kernel) dX4_count_93 ?_
      refine z_get3 (pc := 96) X.1 hW rfl iX4_count_3 5 (by decide) rfl (by decide +kernel) dX4_count_96 ?_
      exact z_iret (pc := 99) X hW (Option.some.inj h) em dX4_count_99
    · rw [if_neg c4] at h
      by_cases c5 : x1 = 2
      · rw [if_pos c5] at h
        refine z_tin (pc := 38) (v := 2) (tgt := 100) X.1 dX4_count_38 c5 (by decide) (by decide) rfl (by decide) ?_
        refine z_aload_n (pc := 100) X.1 hl 0 rfl rfl dX4_count_100 ?_
        refine z_get7 (pc := 101) X.1 hW rfl iX4_count_7 0 (by decide) rfl (by decide +kernel) dX4_count_101 ?_
        refine z_get3 (pc := 104) X.1 hW rfl iX4_count_3 3 (by decide) rfl (by decide +kernel) dX4_count_104 ?_
        exact z_iret (pc := 107) X hW (Option.some.inj h) em dX4_count_107
      · rw [if_neg c5] at h
        by_cases c6 : x1 = 3
        · rw [if_pos c6] at h
          refine z_tin (pc := 38) (v := 3) (tgt := 108) X.1 dX4_count_38 c6 (by decide) (by decide) rfl (by decide) ?_
          refine z_aload_n (pc := 108) X.1 hl 0 rfl rfl dX4_count_108 ?_
          refine z_get7 (pc := 109) X.1 hW rfl iX4_count_7 0 (by decide) rfl (by decide +kernel) dX4_count_109 ?_
          refine z_get3 (pc := 112) X.1 hW rfl iX4_count_3 4 (by decide) rfl (by decide +kernel) dX4_count_112 ?_
          exact z_iret (pc := 115) X hW (Option.some.inj h) em dX4_count_115
        · rw [if_neg c6] at h
          by_cases c8 : x1 = 4
          · rw [if_pos c8] at h
            refine z_tin (pc := 38) (v := 4) (tgt := 116) X.1 dX4_count_38 c8 (by decide) (by decide) rfl (by decide) ?_
            refine z_aload_n (pc := 116) X.1 hl 0 rfl rfl dX4_count_116 ?_
            refine z_get7 (pc := 117) X.1 hW rfl iX4_count_7 0 (by decide) rfl (by decide +kernel) dX4_count_117 ?_
            obtain ⟨q7, eq7, h⟩ := z_bind h
            refine z_callV3I (pc := 120) (n := 0) (As := []) (rest := []) X hW hl rfl (C1_allHas l N 10 rfl μ eq7) gX4_count_X1_allHas rfl (by decide +kernel) rfl (by decide) rfl (Nat.le_of_ble_eq_true rfl) dX4_count_120 (fun H locs hW => ?_)
            exact z_iret (pc := 123) X hW (Option.some.inj h) em dX4_count_123
          · rw [if_neg c8] at h
            by_cases c10 : x1 = 5
            · rw [if_pos c10] at h
              refine z_tin (pc := 38) (v := 5) (tgt := 124) X.1 dX4_count_38 c10 (by decide) (by decide) rfl (by decide) ?_
              refine z_aload_n (pc := 124) X.1 hl 0 rfl rfl dX4_count_124 ?_
              refine z_get7 (pc := 125) X.1 hW rfl iX4_count_7 0 (by decide) rfl (by decide +kernel) dX4_count_125 ?_
              obtain ⟨q9, eq9, h⟩ := z_bind h
              refine z_callV3I (pc := 128) (n := 0) (As := []) (rest := []) X hW hl rfl (C1_allWithMatter l N 10 rfl μ eq9) gX4_count_X1_allWithMatter rfl (by decide +kernel) rfl (by decide) rfl (Nat.le_of_ble_eq_true rfl) dX4_count_128 (fun H locs hW => ?_)
              exact z_iret (pc := 131) X hW (Option.some.inj h) em dX4_count_131
            · rw [if_neg c10] at h
              by_cases c11 : x1 = 6
              · rw [if_pos c11] at h
                refine z_tin (pc := 38) (v := 6) (tgt := 132) X.1 dX4_count_38 c11 (by decide) (by decide) rfl (by decide) ?_
                refine z_aload_n (pc := 132) X.1 hl 0 rfl rfl dX4_count_132 ?_
                refine z_get7 (pc := 133) X.1 hW rfl iX4_count_7 9 (by decide) rfl (by decide +kernel) dX4_count_133 ?_
                exact z_iret (pc := 136) X hW (Option.some.inj h) em dX4_count_136
              · rw [if_neg c11] at h
                by_cases c12 : x1 = 7
                · rw [if_pos c12] at h
                  refine z_tin (pc := 38) (v := 7) (tgt := 137) X.1 dX4_count_38 c12 (by decide) (by decide) rfl (by decide) ?_
                  refine z_aload_n (pc := 137) X.1 hl 0 rfl rfl dX4_count_137 ?_
                  refine z_get7 (pc := 138) X.1 hW rfl iX4_count_7 4 (by decide) rfl (by decide +kernel) dX4_count_138 ?_
                  refine z_get6 (pc := 141) X.1 hW rfl iX4_count_6 1 (by decide) rfl (by decide +kernel) dX4_count_141 ?_
                  exact z_iret (pc := 144) X hW (Option.some.inj h) em dX4_count_144
                · rw [if_neg c12] at h
                  refine z_tout (pc := 38) (tgt := 145) X.1 dX4_count_38 g2 (by omega) (by decide) ?_
                  refine z_bipush (pc := 145) X.1 dX4_count_145 (by decide) ?_
                  exact z_iret (pc := 147) X hW (Option.some.inj h) em dX4_count_147
end
theorem C4_count (l : Launch) {D : va_G} {cy : ClassId × ClassId} {ad : Nat → Nat} (N : Nat) (a0 : Int) (μ0 : mm) {res : Int} (h : M4_count N a0 μ0 = some res) : zI l yX4_count wsX4_count 2 D cy ad [.ref (ad 9), .int (iO a0)] μ0 res μ0 := by
  refine zI.of RX4 rfl (by decide) rfl (Nat.le_of_ble_eq_true rfl) ?_
  intro p e s m args below meth c A X hW ls hl
  have hl : lv_has ls 3 [(0, .ref (ad 9)), (1, .int (iO a0))] := hl
  unfold M4_count at h
  refine z_iload_n (pc := 0) X.1 hl 1 rfl rfl dX4_count_0 ?_
  refine z_bipush (pc := 1) X.1 dX4_count_1 (by decide) ?_
  obtain ⟨g1, h⟩ := z_guard h
  refine z_icmp_lt (pc := 3) (tgt := 37) X.1 dX4_count_3 (by decide) ⟨g1, (by decide)⟩ h (fun c19 h => ?_) (fun c19 h => ?_)
  · exact CJ4_count_37 X N a0 μ0 rfl h _ _ ls hW (lv_sub hl [0, 1] rfl)
  · refine z_iload_n (pc := 6) X.1 hl 1 rfl rfl dX4_count_6 ?_
    refine z_bipush (pc := 7) X.1 dX4_count_7 (by decide) ?_
    obtain ⟨g13, h⟩ := z_guard h
    refine z_icmp_gt (pc := 9) (tgt := 37) X.1 dX4_count_9 (by decide) ⟨g13, (by decide)⟩ h (fun c18 h => ?_) (fun c18 h => ?_)
    · exact CJ4_count_37 X N a0 μ0 rfl h _ _ ls hW (lv_sub hl [0, 1] rfl)
    · refine z_iload_n (pc := 12) X.1 hl 1 rfl rfl dX4_count_12 ?_
      refine z_bipush (pc := 13) X.1 dX4_count_13 (by decide) ?_
      refine z_isub (pc := 15) X.1 dX4_count_15 ?_
      obtain ⟨w14, ew14, h⟩ := z_bnd h
      refine z_istore_n (pc := 16) (i := 2) X.1 [(2, .int (iO w14)), (0, .ref (ad 9)), (1, .int (iO a0))] hl ew14 rfl (by decide) rfl dX4_count_16 (fun ls hl => ?_)
      refine z_iload_n (pc := 17) X.1 hl 0 rfl rfl dX4_count_17 ?_
      refine z_aload_n (pc := 18) X.1 hl 1 rfl rfl dX4_count_18 ?_
      refine z_get7 (pc := 19) X.1 hW rfl iX4_count_7 6 (by decide) rfl (by decide +kernel) dX4_count_19 ?_
      refine z_alen (pc := 22) (i := 47) X.1 hW rfl dX4_count_22 ?_
      obtain ⟨g15, h⟩ := z_guard h
      refine z_icmp_ge (pc := 23) (tgt := 35) X.1 dX4_count_23 (by decide) ⟨g15, (by decide)⟩ h (fun c17 h => ?_) (fun c17 h => ?_)
      · refine z_iconst (pc := 35) X.1 dX4_count_35 ?_
        exact z_iret (pc := 36) X hW (Option.some.inj h) rfl dX4_count_36
      · refine z_aload_n (pc := 26) X.1 hl 1 rfl rfl dX4_count_26 ?_
        refine z_get7 (pc := 27) X.1 hW rfl iX4_count_7 6 (by decide) rfl (by decide +kernel) dX4_count_27 ?_
        refine z_iload_n (pc := 30) X.1 hl 0 rfl rfl dX4_count_30 ?_
        obtain ⟨g16, h⟩ := z_guard h
        refine z_iald (pc := 31) X.1 hW rfl ⟨g16.1, g16.2⟩ dX4_count_31 ?_
        refine z_goto (pc := 32) (tgt := 36) X.1 dX4_count_32 (by decide) ?_
        exact z_iret (pc := 36) X hW (Option.some.inj h) rfl dX4_count_36
-- X5_isIn
theorem C5_isIn (l : Launch) {D : va_G} {cy : ClassId × ClassId} {ad : Nat → Nat} (N : Nat) (a0 : Int) (a1 : Int) (a2 : Int) (μ0 : mm) {res : Int} (h : M5_isIn N a0 a1 a2 μ0 = some res) : zI l yX5_isIn wsX5_isIn 0 D cy ad [.int (iO a0), .int (iO a1), .int (iO a2)] μ0 res μ0 := by
  refine zI.of RX5 rfl (by decide) rfl (Nat.le_of_ble_eq_true rfl) ?_
  intro p e s m args below meth c A X hW ls hl
  have hl : lv_has ls 3 [(0, .int (iO a0)), (1, .int (iO a1)), (2, .int (iO a2))] := hl
  unfold M5_isIn at h
  refine z_iload_n (pc := 0) X.1 hl 0 rfl rfl dX5_isIn_0 ?_
  refine z_iload_n (pc := 1) X.1 hl 1 rfl rfl dX5_isIn_1 ?_
  obtain ⟨g1, h⟩ := z_guard h
  refine z_icmp_lt (pc := 2) (tgt := 14) X.1 dX5_isIn_2 (by decide) ⟨g1.1, g1.2⟩ h (fun c4 h => ?_) (fun c4 h => ?_)
  · refine z_iconst (pc := 14) X.1 dX5_isIn_14 ?_
    exact z_zret (pc := 15) X hW (by decide) (Option.some.inj h) rfl dX5_isIn_15
  · refine z_iload_n (pc := 5) X.1 hl 0 rfl rfl dX5_isIn_5 ?_
    refine z_iload_n (pc := 6) X.1 hl 2 rfl rfl dX5_isIn_6 ?_
    obtain ⟨g2, h⟩ := z_guard h
    refine z_icmp_gt (pc := 7) (tgt := 14) X.1 dX5_isIn_7 (by decide) ⟨g2.1, g2.2⟩ h (fun c3 h => ?_) (fun c3 h => ?_)
    · refine z_iconst (pc := 14) X.1 dX5_isIn_14 ?_
      exact z_zret (pc := 15) X hW (by decide) (Option.some.inj h) rfl dX5_isIn_15
    · refine z_iconst (pc := 10) X.1 dX5_isIn_10 ?_
      refine z_goto (pc := 11) (tgt := 15) X.1 dX5_isIn_11 (by decide) ?_
      exact z_zret (pc := 15) X hW (by decide) (Option.some.inj h) rfl dX5_isIn_15
-- X5_least
theorem C5_least (l : Launch) {D : va_G} {cy : ClassId × ClassId} {ad : Nat → Nat} (N : Nat) (a0 : Int) (a1 : Int) (μ0 : mm) {res : Int} (h : M5_least N a0 a1 μ0 = some res) : zI l yX5_least wsX5_least 0 D cy ad [.int (iO a0), .int (iO a1)] μ0 res μ0 := by
  refine zI.of RX5 rfl (by decide) rfl (Nat.le_of_ble_eq_true rfl) ?_
  intro p e s m args below meth c A X hW ls hl
  have hl : lv_has ls 2 [(0, .int (iO a0)), (1, .int (iO a1))] := hl
  unfold M5_least at h
  refine z_iload_n (pc := 0) X.1 hl 0 rfl rfl dX5_least_0 ?_
  refine z_iload_n (pc := 1) X.1 hl 1 rfl rfl dX5_least_1 ?_
  obtain ⟨g1, h⟩ := z_guard h
  refine z_icmp_ge (pc := 2) (tgt := 9) X.1 dX5_least_2 (by decide) ⟨g1.1, g1.2⟩ h (fun c2 h => ?_) (fun c2 h => ?_)
  · refine z_iload_n (pc := 9) X.1 hl 1 rfl rfl dX5_least_9 ?_
    exact z_iret (pc := 10) X hW (Option.some.inj h) rfl dX5_least_10
  · refine z_iload_n (pc := 5) X.1 hl 0 rfl rfl dX5_least_5 ?_
    refine z_goto (pc := 6) (tgt := 10) X.1 dX5_least_6 (by decide) ?_
    exact z_iret (pc := 10) X hW (Option.some.inj h) rfl dX5_least_10
-- X5_copies
section
variable {p : Program} {l : Launch} {e : Env} {s : State} {m : MethodId} {args : Array Value} {below : List Frame} {meth : Method} {c : Code} {D : va_G} {cy : ClassId × ClassId} {ad : Nat → Nat} {A : Nat → Prop} {res : mm}
theorem CL5_copies_2 (X : zX p s m args meth c cX5_copies RX5 wsX5_copies 3 D cy ad none A) (N : Nat) : ∀ (k : Nat) (r0 : Nat) (r1 : Nat) (x2 : Int) (hk_r0 : kd r0 = 2 ∧ al r0 = 52) (hk_r1 : kd r1 = 2 ∧ al r1 = 52) (μ : mm), L5_copies_2 N k r0 r1 x2 μ = some res → ∀ (H : Heap) (locs : List Loc) (ls : Array Slot), zW D cy ad A s.heap μ H locs → lv_has ls 3 [(0, .ref (ad r0)), (1, .ref (ad r1)), (2, .int (iO x2))] → W p l e (rmD 0) s m args below meth c H locs 0 0 (MQ below (zQv D cy ad A res) args s 0 0 A) (F0 m 2 ls []) := by
  intro k
  induction k with
  | zero =>
    intro r0 r1 x2 hk_r0 hk_r1 μ h H locs ls hW hl
    exact absurd h (by rw [L5_copies_2]; exact fun z => by cases z)
  | succ k ih =>
    intro r0 r1 x2 hk_r0 hk_r1 μ h H locs ls hW hl
    rw [L5_copies_2] at h
    refine z_iload_n (pc := 2) X.1 hl 2 rfl rfl dX5_copies_2 ?_
    refine z_bipush (pc := 3) X.1 dX5_copies_3 (by decide) ?_
    obtain ⟨g1, h⟩ := z_guard h
    refine z_icmp_ge (pc := 5) (tgt := 20) X.1 dX5_copies_5 (by decide) ⟨g1, (by decide)⟩ h (fun c5 h => ?_) (fun c5 h => ?_)
    · exact z_vret (pc := 20) X hW (Option.some.inj h) dX5_copies_20
    · refine z_aload_n (pc := 8) X.1 hl 1 rfl rfl dX5_copies_8 ?_
      refine z_iload_n (pc := 9) X.1 hl 2 rfl rfl dX5_copies_9 ?_
      refine z_aload_n (pc := 10) X.1 hl 0 rfl rfl dX5_copies_10 ?_
      refine z_iload_n (pc := 11) X.1 hl 2 rfl rfl dX5_copies_11 ?_
      obtain ⟨g2, h⟩ := z_guard h
      refine z_iald (pc := 12) X.1 hW hk_r0.1 ⟨g2.1, (z_al52 hk_r0 g2.2)⟩ dX5_copies_12 ?_
      obtain ⟨g3, h⟩ := z_guard h
      obtain ⟨μ4, eμ4, h⟩ := z_bnd h
      refine z_iast (pc := 13) X.1 hW hk_r1.1 ⟨g3.1, (z_al52 hk_r1 g3.2)⟩ dX5_copies_13 (fun H locs hW => ?_)
      replace hW : zW D cy ad A s.heap μ4 H locs := by rw [eμ4]; exact hW
      refine z_iinc (pc := 14) (i := 2) X.1 [(2, .int (iO (x2 + 1))), (0, .ref (ad r0)), (1, .ref (ad r1))] hl 2 rfl rfl (by decide) rfl dX5_copies_14 (fun ls hl => ?_)
      refine z_goto (pc := 17) (tgt := 2) X.1 dX5_copies_17 (by decide) ?_
      exact ih r0 r1 (x2 + 1) hk_r0 hk_r1 μ4 h _ _ ls hW (lv_sub hl [1, 2, 0] rfl)
end
theorem C5_copies (l : Launch) {D : va_G} {cy : ClassId × ClassId} {ad : Nat → Nat} (N : Nat) (a0 : Nat) (a1 : Nat) (h_a0 : kd a0 = 2 ∧ al a0 = 52) (h_a1 : kd a1 = 2 ∧ al a1 = 52) (μ : mm) {res : mm} (h : M5_copies N a0 a1 μ = some res) : zV l yX5_copies wsX5_copies 0 D cy ad [.ref (ad a0), .ref (ad a1)] μ res := by
  refine zV.of RX5 rfl (by decide) rfl (Nat.le_of_ble_eq_true rfl) ?_
  intro p e s m args below meth c A X hW ls hl
  have hl : lv_has ls 3 [(0, .ref (ad a0)), (1, .ref (ad a1))] := hl
  unfold M5_copies at h
  refine z_iconst (pc := 0) X.1 dX5_copies_0 ?_
  refine z_istore_n (pc := 1) (i := 2) X.1 [(2, .int (iO 0)), (0, .ref (ad a0)), (1, .ref (ad a1))] hl rfl rfl (by decide) rfl dX5_copies_1 (fun ls hl => ?_)
  exact CL5_copies_2 X N N a0 a1 0 h_a0 h_a1 μ h _ _ ls hW (lv_sub hl [1, 2, 0] rfl)
-- X5_no
theorem iX5_no_1 : ∀ w ∈ wsX50, w ∈ wsX5_no := by decide +kernel
theorem C5_no (l : Launch) {D : va_G} {cy : ClassId × ClassId} {ad : Nat → Nat} (N : Nat) (a0 : Int) (μ : mm) {res : (Int × mm)} (h : M5_no N a0 μ = some res) : zI l yX5_no wsX5_no 0 D cy ad [.ref (ad 0), .int (iO a0)] μ res.1 res.2 := by
  refine zI.of RX5 rfl (by decide) rfl (Nat.le_of_ble_eq_true rfl) ?_
  intro p e s m args below meth c A X hW ls hl
  have hl : lv_has ls 2 [(0, .ref (ad 0)), (1, .int (iO a0))] := hl
  unfold M5_no at h
  refine z_aload_n (pc := 0) X.1 hl 0 rfl rfl dX5_no_0 ?_
  refine z_get1 (pc := 1) X.1 hW rfl iX5_no_1 7 (by decide) rfl (by decide +kernel) dX5_no_1 ?_
  refine z_iload_n (pc := 4) X.1 hl 1 rfl rfl dX5_no_4 ?_
  refine z_ineg (pc := 5) X.1 dX5_no_5 ?_
  refine z_dup2 (pc := 6) X.1 dX5_no_6 rfl rfl ?_
  obtain ⟨g1, h⟩ := z_guard h
  refine z_iald (pc := 7) X.1 hW rfl ⟨g1.1, g1.2⟩ dX5_no_7 ?_
  refine z_iconst (pc := 8) X.1 dX5_no_8 ?_
  refine z_iadd (pc := 9) X.1 dX5_no_9 ?_
  obtain ⟨g2, h⟩ := z_guard h
  obtain ⟨μ3, eμ3, h⟩ := z_bnd h
  refine z_iast (pc := 10) X.1 hW rfl ⟨g2.1, g2.2⟩ dX5_no_10 (fun H locs hW => ?_)
  replace hW : zW D cy ad A s.heap μ3 H locs := by rw [eμ3]; exact hW
  refine z_iload_n (pc := 11) X.1 hl 1 rfl rfl dX5_no_11 ?_
  exact z_iret (pc := 12) X hW (z_p1 h) (z_p2 h) dX5_no_12
-- X5_noFar
theorem C5_noFar (l : Launch) {D : va_G} {cy : ClassId × ClassId} {ad : Nat → Nat} (N : Nat) (a0 : Int) (μ : mm) {res : (Int × mm)} (h : M5_noFar N a0 μ = some res) : zI l yX5_noFar wsX5_noFar 1 D cy ad [.ref (ad 0), .int (iO a0)] μ res.1 res.2 := by
  refine zI.of RX5 rfl (by decide) rfl (Nat.le_of_ble_eq_true rfl) ?_
  intro p e s m args below meth c A X hW ls hl
  have hl : lv_has ls 2 [(0, .ref (ad 0)), (1, .int (iO a0))] := hl
  unfold M5_noFar at h
  refine z_ldc (pc := 0) (n := 1000000000) X.1 (by decide +kernel) dX5_noFar_0 ?_
  refine z_aload_n (pc := 2) X.1 hl 0 rfl rfl dX5_noFar_2 ?_
  refine z_iload_n (pc := 3) X.1 hl 1 rfl rfl dX5_noFar_3 ?_
  obtain ⟨q1, eq1, h⟩ := z_bind h
  refine z_callV1I (pc := 4) (n := 1) (As := [.int (iO a0)]) (rest := [.int (iO 1000000000)]) X hW hl rfl (C5_no l N a0 μ eq1) gX5_noFar_X5_no rfl (by decide +kernel) rfl (by decide) rfl (Nat.le_of_ble_eq_true rfl) dX5_noFar_4 (fun H locs hW => ?_)
  refine z_isub (pc := 7) X.1 dX5_noFar_7 ?_
  exact z_iret (pc := 8) X hW (z_p1 h) (z_p2 h) dX5_noFar_8
