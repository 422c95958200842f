-- X4_two
section
variable {p : Program} {l : Launch} {e : Env} {s : State} {m : MethodId} {args : Array Value} {below : List Frame} {meth : Method} {c : Code} {D : va_G} {cy : ClassId × ClassId} {ad : Nat → Nat} {A : Nat → Prop} {res : (Int × mm)}
theorem CJ4_two_131 (X : zX p s m args meth c cX4_two RX4 wsX4_two 9 D cy ad (some .int) A) (N : Nat) (rec60 : Int → Int → Int → mm → Option (Int × mm)) (hrec60 : ∀ (x1 : Int) (x2 : Int) (x6 : Int) (μ : mm), rec60 x1 x2 x6 μ = some res → ∀ (H : Heap) (locs : List Loc) (ls : Array Slot), zW D cy ad A s.heap μ H locs → lv_has ls 9 [(0, .ref (ad 9)), (1, .int (iO x1)), (2, .int (iO x2)), (6, .int (iO x6))] → W p l e (rmD 5) s m args below meth c H locs 0 0 (MQ below (zQi D cy ad A res.1 res.2) args s 0 0 A) (F0 m 60 ls [])) : ∀ (x1 : Int) (x2 : Int) (x6 : Int) (μ : mm), J4_two_131 N rec60 x1 x2 x6 μ = some res → ∀ (H : Heap) (locs : List Loc) (ls : Array Slot), zW D cy ad A s.heap μ H locs → lv_has ls 9 [(0, .ref (ad 9)), (1, .int (iO x1)), (2, .int (iO x2)), (6, .int (iO x6))] → W p l e (rmD 5) s m args below meth c H locs 0 0 (MQ below (zQi D cy ad A res.1 res.2) args s 0 0 A) (F0 m 131 ls []) := by
  intro x1 x2 x6 μ h H locs ls hW hl
  rw [J4_two_131] at h
  refine z_iinc (pc := 131) (i := 6) X.1 [(6, .int (iO (x6 + 1))), (0, .ref (ad 9)), (1, .int (iO x1)), (2, .int (iO x2))] hl 3 rfl rfl (by decide) rfl dX4_two_131 (fun ls hl => ?_)
  refine z_goto (pc := 134) (tgt := 60) X.1 dX4_two_134 (by decide) ?_
  exact hrec60 x1 x2 (x6 + 1) μ h _ _ ls hW (lv_sub hl [1, 2, 3, 0] rfl)
theorem CL4_two_60 (X : zX p s m args meth c cX4_two RX4 wsX4_two 9 D cy ad (some .int) A) (N : Nat) : ∀ (k : Nat) (x1 : Int) (x2 : Int) (x6 : Int) (μ : mm), L4_two_60 N k x1 x2 x6 μ = some res → ∀ (H : Heap) (locs : List Loc) (ls : Array Slot), zW D cy ad A s.heap μ H locs → lv_has ls 9 [(0, .ref (ad 9)), (1, .int (iO x1)), (2, .int (iO x2)), (6, .int (iO x6))] → W p l e (rmD 5) s m args below meth c H locs 0 0 (MQ below (zQi D cy ad A res.1 res.2) args s 0 0 A) (F0 m 60 ls []) := by
  intro k
  induction k with
  | zero =>
    intro x1 x2 x6 μ h H locs ls hW hl
    exact absurd h (by rw [L4_two_60]; exact fun z => by cases z)
  | succ k ih =>
    intro x1 x2 x6 μ h H locs ls hW hl
    rw [L4_two_60] at h
    refine z_iload (pc := 60) X.1 hl 3 rfl dX4_two_60 ?_
    refine z_iconst (pc := 62) X.1 dX4_two_62 ?_
    obtain ⟨g9, h⟩ := z_guard h
    refine z_icmp_ge (pc := 63) (tgt := 137) X.1 dX4_two_63 (by decide) ⟨g9, (by decide)⟩ h (fun c22 h => ?_) (fun c22 h => ?_)
    · refine z_bipush (pc := 137) X.1 dX4_two_137 (by decide) ?_
      exact z_iret (pc := 139) X hW (z_p1 h) (z_p2 h) dX4_two_139
    · refine z_iload (pc := 66) X.1 hl 3 rfl dX4_two_66 ?_
      refine z_iconst (pc := 68) X.1 dX4_two_68 ?_
      obtain ⟨g10, h⟩ := z_guard h
      refine z_idiv (pc := 69) X.1 dX4_two_69 ⟨g10.1, (by decide), g10.2, (by decide)⟩ ?_
      obtain ⟨w11, ew11, h⟩ := z_bnd h
      refine z_istore (pc := 70) (i := 7) X.1 [(7, .int (iO w11)), (0, .ref (ad 9)), (1, .int (iO x1)), (2, .int (iO x2)), (6, .int (iO x6))] hl ew11 (by decide) rfl dX4_two_70 (fun ls hl => ?_)
      refine z_iload (pc := 72) X.1 hl 4 rfl dX4_two_72 ?_
      refine z_iconst (pc := 74) X.1 dX4_two_74 ?_
      obtain ⟨g12, h⟩ := z_guard h
      refine z_irem (pc := 75) X.1 dX4_two_75 ⟨g12.1, (by decide), g12.2, (by decide)⟩ ?_
      obtain ⟨w13, ew13, h⟩ := z_bnd h
      refine z_istore (pc := 76) (i := 8) X.1 [(8, .int (iO w13)), (7, .int (iO w11)), (0, .ref (ad 9)), (1, .int (iO x1)), (2, .int (iO x2)), (6, .int (iO x6))] hl ew13 (by decide) rfl dX4_two_76 (fun ls hl => ?_)
      refine z_aload_n (pc := 78) X.1 hl 2 rfl rfl dX4_two_78 ?_
      refine z_iload_n (pc := 79) X.1 hl 3 rfl rfl dX4_two_79 ?_
      refine z_iload (pc := 80) X.1 hl 1 rfl dX4_two_80 ?_
      obtain ⟨q14, eq14, h⟩ := z_bind h
      refine z_callV7I (pc := 82) (n := 2) (As := [.int (iO x1), .int (iO w11)]) (rest := []) X hW hl rfl (C4_firstWants l N x1 w11 μ eq14) gX4_two_X4_firstWants rfl (by decide +kernel) rfl (by decide) rfl (Nat.le_of_ble_eq_true rfl) dX4_two_82 (fun H locs hW => ?_)
      refine z_aload_n (pc := 85) X.1 hl 2 rfl rfl dX4_two_85 ?_
      refine z_iload_n (pc := 86) X.1 hl 3 rfl rfl dX4_two_86 ?_
      refine z_iconst (pc := 87) X.1 dX4_two_87 ?_
      refine z_iload (pc := 88) X.1 hl 1 rfl dX4_two_88 ?_
      refine z_isub (pc := 90) X.1 dX4_two_90 ?_
      obtain ⟨q15, eq15, h⟩ := z_bind h
      refine z_callV7I (pc := 91) (n := 2) (As := [.int (iO x1), .int (iO (1 - w11))]) (rest := [.int (iO q14)]) X hW hl rfl (C4_firstWants l N x1 (1 - w11) μ eq15) gX4_two_X4_firstWants rfl (by decide +kernel) rfl (by decide) rfl (Nat.le_of_ble_eq_true rfl) dX4_two_91 (fun H locs hW => ?_)
      obtain ⟨g16, h⟩ := z_guard h
      refine z_icmp_lt (pc := 94) (tgt := 131) X.1 dX4_two_94 (by decide) ⟨g16.1, g16.2⟩ h (fun c21 h => ?_) (fun c21 h => ?_)
      · exact CJ4_two_131 X N (L4_two_60 N k) ih x1 x2 x6 μ h _ _ ls hW (lv_sub hl [2, 3, 4, 5] rfl)
      · refine z_aload_n (pc := 97) X.1 hl 2 rfl rfl dX4_two_97 ?_
        refine z_iload_n (pc := 98) X.1 hl 3 rfl rfl dX4_two_98 ?_
        refine z_iload (pc := 99) X.1 hl 1 rfl dX4_two_99 ?_
        refine z_iload_n (pc := 101) X.1 hl 4 rfl rfl dX4_two_101 ?_
        refine z_iload (pc := 102) X.1 hl 0 rfl dX4_two_102 ?_
        obtain ⟨q17, eq17, h⟩ := z_bind h
        refine z_callV7I (pc := 104) (n := 4) (As := [.int (iO x1), .int (iO w11), .int (iO x2), .int (iO w13)]) (rest := []) X hW hl rfl (C4_otherWants l N x1 w11 x2 w13 μ eq17) gX4_two_X4_otherWants rfl (by decide +kernel) rfl (by decide) rfl (Nat.le_of_ble_eq_true rfl) dX4_two_104 (fun H locs hW => ?_)
        refine z_aload_n (pc := 107) X.1 hl 2 rfl rfl dX4_two_107 ?_
        refine z_iload_n (pc := 108) X.1 hl 3 rfl rfl dX4_two_108 ?_
        refine z_iload (pc := 109) X.1 hl 1 rfl dX4_two_109 ?_
        refine z_iload_n (pc := 111) X.1 hl 4 rfl rfl dX4_two_111 ?_
        refine z_iconst (pc := 112) X.1 dX4_two_112 ?_
        refine z_iload (pc := 113) X.1 hl 0 rfl dX4_two_113 ?_
        refine z_isub (pc := 115) X.1 dX4_two_115 ?_
        obtain ⟨q18, eq18, h⟩ := z_bind h
        refine z_callV7I (pc := 116) (n := 4) (As := [.int (iO x1), .int (iO w11), .int (iO x2), .int (iO (1 - w13))]) (rest := [.int (iO q17)]) X hW hl rfl (C4_otherWants l N x1 w11 x2 (1 - w13) μ eq18) gX4_two_X4_otherWants rfl (by decide +kernel) rfl (by decide) rfl (Nat.le_of_ble_eq_true rfl) dX4_two_116 (fun H locs hW => ?_)
        obtain ⟨g19, h⟩ := z_guard h
        refine z_icmp_lt (pc := 119) (tgt := 131) X.1 dX4_two_119 (by decide) ⟨g19.1, g19.2⟩ h (fun c20 h => ?_) (fun c20 h => ?_)
        · exact CJ4_two_131 X N (L4_two_60 N k) ih x1 x2 x6 μ h _ _ ls hW (lv_sub hl [2, 3, 4, 5] rfl)
        · refine z_bipush (pc := 122) X.1 dX4_two_122 (by decide) ?_
          refine z_iload (pc := 124) X.1 hl 1 rfl dX4_two_124 ?_
          refine z_imul (pc := 126) X.1 dX4_two_126 ?_
          refine z_iload (pc := 127) X.1 hl 0 rfl dX4_two_127 ?_
          refine z_iadd (pc := 129) X.1 dX4_two_129 ?_
          exact z_iret (pc := 130) X hW (z_p1 h) (z_p2 h) dX4_two_130
theorem CJ4_two_20 (X : zX p s m args meth c cX4_two RX4 wsX4_two 9 D cy ad (some .int) A) (N : Nat) : ∀ (x1 : Int) (x2 : Int) (x3 : Int) (y0 : Int) (y1 : Int) (y2 : Int) (μ : mm), J4_two_20 N x1 x2 x3 y0 y1 y2 μ = some res → ∀ (H : Heap) (locs : List Loc) (ls : Array Slot), zW D cy ad A s.heap μ H locs → lv_has ls 9 [(0, .ref (ad 9)), (1, .int (iO x1)), (2, .int (iO x2)), (3, .int (iO x3))] → W p l e (rmD 5) s m args below meth c H locs 0 0 (MQ below (zQi D cy ad A res.1 res.2) args s 0 0 A) (F0 m 20 ls [.int (iO y0), .int (iO y1), .int (iO y2)]) := by
  intro x1 x2 x3 y0 y1 y2 μ h H locs ls hW hl
  rw [J4_two_20] at h
  obtain ⟨q4, eq4, h⟩ := z_bind h
  refine z_callSI (pc := 20) (n := 3) (As := [.int (iO y2), .int (iO y1), .int (iO y0)]) (rest := []) X hW hl (C4_firstOf l N y2 y1 y0 μ eq4) gX4_two_X4_firstOf rfl (by decide +kernel) rfl (by decide) rfl (Nat.le_of_ble_eq_true rfl) dX4_two_20 (fun H locs hW => ?_)
  refine z_istore (pc := 23) (i := 4) X.1 [(4, .int (iO q4)), (0, .ref (ad 9)), (1, .int (iO x1)), (2, .int (iO x2)), (3, .int (iO x3))] hl rfl (by decide) rfl dX4_two_23 (fun ls hl => ?_)
  refine z_iload (pc := 25) X.1 hl 0 rfl dX4_two_25 ?_
  refine z_iload_n (pc := 27) X.1 hl 4 rfl rfl dX4_two_27 ?_
  refine z_iconst (pc := 28) X.1 dX4_two_28 ?_
  refine z_bipush (pc := 29) X.1 dX4_two_29 (by decide) ?_
  obtain ⟨q5, eq5, h⟩ := z_bind h
  refine z_callSI (pc := 31) (n := 3) (As := [.int (iO x3), .int (iO 1), .int (iO 30)]) (rest := [.int (iO q4)]) X hW hl (C4_outside l N x3 1 30 μ eq5) gX4_two_X4_outside rfl (by decide +kernel) rfl (by decide) rfl (Nat.le_of_ble_eq_true rfl) dX4_two_31 (fun H locs hW => ?_)
  refine z_iconst (pc := 34) X.1 dX4_two_34 ?_
  obtain ⟨q6, eq6, h⟩ := z_bind h
  refine z_callSI (pc := 35) (n := 3) (As := [.int (iO q4), .int (iO q5), .int (iO 0)]) (rest := []) X hW hl (C4_firstOf l N q4 q5 0 μ eq6) gX4_two_X4_firstOf rfl (by decide +kernel) rfl (by decide) rfl (Nat.le_of_ble_eq_true rfl) dX4_two_35 (fun H locs hW => ?_)
  refine z_istore (pc := 38) (i := 5) X.1 [(5, .int (iO q6)), (4, .int (iO q4)), (0, .ref (ad 9)), (1, .int (iO x1)), (2, .int (iO x2)), (3, .int (iO x3))] hl rfl (by decide) rfl dX4_two_38 (fun ls hl => ?_)
  refine z_iload (pc := 40) X.1 hl 0 rfl dX4_two_40 ?_
  obtain ⟨g7, h⟩ := z_guard h
  refine z_if_eq (pc := 42) (tgt := 52) X.1 dX4_two_42 (by decide) g7 h (fun c24 h => ?_) (fun c24 h => ?_)
  · refine z_aload_n (pc := 52) X.1 hl 2 rfl rfl dX4_two_52 ?_
    refine z_iload_n (pc := 53) X.1 hl 5 rfl rfl dX4_two_53 ?_
    obtain ⟨q8, eq8, h⟩ := z_bind h
    refine z_callV7V (pc := 54) (n := 1) (As := [.int (iO x3)]) (rest := []) X hW hl rfl (C4_weigh l N x3 μ eq8) gX4_two_X4_weigh rfl (by decide +kernel) rfl (by decide) rfl (Nat.le_of_ble_eq_true rfl) dX4_two_54 (fun H locs hW => ?_)
    refine z_iconst (pc := 57) X.1 dX4_two_57 ?_
    refine z_istore (pc := 58) (i := 6) X.1 [(6, .int (iO 0)), (5, .int (iO q6)), (4, .int (iO q4)), (0, .ref (ad 9)), (1, .int (iO x1)), (2, .int (iO x2)), (3, .int (iO x3))] hl rfl (by decide) rfl dX4_two_58 (fun ls hl => ?_)
    exact CL4_two_60 X N N x1 x2 0 q8 h _ _ ls hW (lv_sub hl [3, 4, 5, 0] rfl)
  · refine z_aload_n (pc := 45) X.1 hl 2 rfl rfl dX4_two_45 ?_
    refine z_iload (pc := 46) X.1 hl 0 rfl dX4_two_46 ?_
    obtain ⟨q23, eq23, h⟩ := z_bind h
    refine z_callV7I (pc := 48) (n := 1) (As := [.int (iO q6)]) (rest := []) X hW hl rfl (C4_refused l N q6 μ eq23) gX4_two_X4_refused rfl (by decide +kernel) rfl (by decide) rfl (Nat.le_of_ble_eq_true rfl) dX4_two_48 (fun H locs hW => ?_)
    exact z_iret (pc := 51) X hW (z_p1 h) (z_p2 h) dX4_two_51
end
theorem C4_two (l : Launch) {D : va_G} {cy : ClassId × ClassId} {ad : Nat → Nat} (N : Nat) (a0 : Int) (a1 : Int) (a2 : Int) (μ : mm) {res : (Int × mm)} (h : M4_two N a0 a1 a2 μ = some res) : zI l yX4_two wsX4_two 5 D cy ad [.ref (ad 9), .int (iO a0), .int (iO a1), .int (iO a2)] μ res.1 res.2 := by
  refine zI.of RX4 rfl (by decide) rfl (Nat.le_of_ble_eq_true rfl) ?_
  intro p e s m args below meth c A X hW ls hl
  have hl : lv_has ls 9 [(0, .ref (ad 9)), (1, .int (iO a0)), (2, .int (iO a1)), (3, .int (iO a2))] := hl
  unfold M4_two at h
  refine z_aload_n (pc := 0) X.1 hl 0 rfl rfl dX4_two_0 ?_
  refine z_iload_n (pc := 1) X.1 hl 1 rfl rfl dX4_two_1 ?_
  obtain ⟨q1, eq1, h⟩ := z_bind h
  refine z_callV7I (pc := 2) (n := 1) (As := [.int (iO a0)]) (rest := []) X hW hl rfl (C4_unknown l N a0 μ eq1) gX4_two_X4_unknown rfl (by decide +kernel) rfl (by decide) rfl (Nat.le_of_ble_eq_true rfl) dX4_two_2 (fun H locs hW => ?_)
  refine z_aload_n (pc := 5) X.1 hl 0 rfl rfl dX4_two_5 ?_
  refine z_iload_n (pc := 6) X.1 hl 2 rfl rfl dX4_two_6 ?_
  obtain ⟨q2, eq2, h⟩ := z_bind h
  refine z_callV7I (pc := 7) (n := 1) (As := [.int (iO a1)]) (rest := [.int (iO q1)]) X hW hl rfl (C4_unknown l N a1 μ eq2) gX4_two_X4_unknown rfl (by decide +kernel) rfl (by decide) rfl (Nat.le_of_ble_eq_true rfl) dX4_two_7 (fun H locs hW => ?_)
  refine z_iload_n (pc := 10) X.1 hl 1 rfl rfl dX4_two_10 ?_
  refine z_iload_n (pc := 11) X.1 hl 2 rfl rfl dX4_two_11 ?_
  obtain ⟨g3, h⟩ := z_guard h
  refine z_icmp_ne (pc := 12) (tgt := 19) X.1 dX4_two_12 (by decide) ⟨g3.1, g3.2⟩ h (fun c25 h => ?_) (fun c25 h => ?_)
  · refine z_iconst (pc := 19) X.1 dX4_two_19 ?_
    exact CJ4_two_20 X N a0 a1 a2 0 q2 q1 μ h _ _ ls hW (lv_sub hl [0, 1, 2, 3] rfl)
  · refine z_iconst (pc := 15) X.1 dX4_two_15 ?_
    refine z_goto (pc := 16) (tgt := 20) X.1 dX4_two_16 (by decide) ?_
    exact CJ4_two_20 X N a0 a1 a2 (-1) q2 q1 μ h _ _ ls hW (lv_sub hl [0, 1, 2, 3] rfl)
-- X4_throughLosing
theorem iX4_throughLosing_5 : ∀ w ∈ wsX20, w ∈ wsX4_throughLosing := by decide +kernel
theorem iX4_throughLosing_7 : ∀ w ∈ wsX40, w ∈ wsX4_throughLosing := by decide +kernel
section
variable {p : Program} {l : Launch} {e : Env} {s : State} {m : MethodId} {args : Array Value} {below : List Frame} {meth : Method} {c : Code} {D : va_G} {cy : ClassId × ClassId} {ad : Nat → Nat} {A : Nat → Prop} {res : (Int × mm)}
theorem CJ4_throughLosing_61 (X : zX p s m args meth c cX4_throughLosing RX4 wsX4_throughLosing 6 D cy ad (some .int) A) (N : Nat) (rec22 : Int → Int → Nat → Int → mm → Option (Int × mm)) (hrec22 : ∀ (x2 : Int) (x3 : Int) (r4 : Nat) (x5 : Int) (_ : kd r4 = 5) (μ : mm), rec22 x2 x3 r4 x5 μ = some res → ∀ (H : Heap) (locs : List Loc) (ls : Array Slot), zW D cy ad A s.heap μ H locs → lv_has ls 6 [(0, .ref (ad 9)), (2, .int (iO x2)), (3, .int (iO x3)), (4, .ref (ad r4)), (5, .int (iO x5))] → W p l e (rmD 2) s m args below meth c H locs 0 0 (MQ below (zQi D cy ad A res.1 res.2) args s 0 0 A) (F0 m 22 ls [])) : ∀ (x2 : Int) (x3 : Int) (r4 : Nat) (x5 : Int) (hk_r4 : kd r4 = 5) (μ : mm), J4_throughLosing_61 N rec22 x2 x3 r4 x5 μ = some res → ∀ (H : Heap) (locs : List Loc) (ls : Array Slot), zW D cy ad A s.heap μ H locs → lv_has ls 6 [(0, .ref (ad 9)), (2, .int (iO x2)), (3, .int (iO x3)), (4, .ref (ad r4)), (5, .int (iO x5))] → W p l e (rmD 2) s m args below meth c H locs 0 0 (MQ below (zQi D cy ad A res.1 res.2) args s 0 0 A) (F0 m 61 ls []) := by
  intro x2 x3 r4 x5 hk_r4 μ h H locs ls hW hl
  rw [J4_throughLosing_61] at h
  refine z_aload_n (pc := 61) X.1 hl 0 rfl rfl dX4_throughLosing_61 ?_
  refine z_get7 (pc := 62) X.1 hW rfl iX4_throughLosing_7 3 (by decide) rfl (by decide +kernel) dX4_throughLosing_62 ?_
  obtain ⟨q7, eq7, h⟩ := z_bind h
  refine z_callV5I (pc := 65) (n := 0) (As := []) (rest := []) X hW hl rfl (C2_oneDay l N 43 rfl μ eq7) gX4_throughLosing_X2_oneDay rfl (by decide +kernel) rfl (by decide) rfl (Nat.le_of_ble_eq_true rfl) dX4_throughLosing_65 (fun H locs hW => ?_)
  refine z_pop (pc := 68) X.1 dX4_throughLosing_68 rfl ?_
  refine z_iinc (pc := 69) (i := 5) X.1 [(5, .int (iO (x5 + 1))), (0, .ref (ad 9)), (2, .int (iO x2)), (3, .int (iO x3)), (4, .ref (ad r4))] hl 4 rfl rfl (by decide) rfl dX4_throughLosing_69 (fun ls hl => ?_)
  refine z_goto (pc := 72) (tgt := 22) X.1 dX4_throughLosing_72 (by decide) ?_
  exact hrec22 x2 x3 r4 (x5 + 1) hk_r4 q7.2 h _ _ ls hW (lv_sub hl [1, 2, 3, 4, 0] rfl)
theorem CL4_throughLosing_22 (X : zX p s m args meth c cX4_throughLosing RX4 wsX4_throughLosing 6 D cy ad (some .int) A) (N : Nat) : ∀ (k : Nat) (x2 : Int) (x3 : Int) (r4 : Nat) (x5 : Int) (hk_r4 : kd r4 = 5) (μ : mm), L4_throughLosing_22 N k x2 x3 r4 x5 μ = some res → ∀ (H : Heap) (locs : List Loc) (ls : Array Slot), zW D cy ad A s.heap μ H locs → lv_has ls 6 [(0, .ref (ad 9)), (2, .int (iO x2)), (3, .int (iO x3)), (4, .ref (ad r4)), (5, .int (iO x5))] → W p l e (rmD 2) s m args below meth c H locs 0 0 (MQ below (zQi D cy ad A res.1 res.2) args s 0 0 A) (F0 m 22 ls []) := by
  intro k
  induction k with
  | zero =>
    intro x2 x3 r4 x5 hk_r4 μ h H locs ls hW hl
    exact absurd h (by rw [L4_throughLosing_22]; exact fun z => by cases z)
  | succ k ih =>
    intro x2 x3 r4 x5 hk_r4 μ h H locs ls hW hl
    rw [L4_throughLosing_22] at h
    refine z_iload (pc := 22) X.1 hl 4 rfl dX4_throughLosing_22 ?_
    refine z_iload_n (pc := 24) X.1 hl 1 rfl rfl dX4_throughLosing_24 ?_
    obtain ⟨g4, h⟩ := z_guard h
    refine z_icmp_ge (pc := 25) (tgt := 75) X.1 dX4_throughLosing_25 (by decide) ⟨g4.1, g4.2⟩ h (fun c12 h => ?_) (fun c12 h => ?_)
    · refine z_aload_n (pc := 75) X.1 hl 0 rfl rfl dX4_throughLosing_75 ?_
      refine z_get7 (pc := 76) X.1 hW rfl iX4_throughLosing_7 3 (by decide) rfl (by decide +kernel) dX4_throughLosing_76 ?_
      refine z_get5 (pc := 79) X.1 hW rfl iX4_throughLosing_5 4 (by decide) rfl (by decide +kernel) dX4_throughLosing_79 ?_
      refine z_aload (pc := 82) X.1 hl 3 rfl dX4_throughLosing_82 ?_
      refine z_get5 (pc := 84) X.1 hW hk_r4 iX4_throughLosing_5 4 (by decide) rfl (by decide +kernel) dX4_throughLosing_84 ?_
      refine z_isub (pc := 87) X.1 dX4_throughLosing_87 ?_
      exact z_iret (pc := 88) X hW (z_p1 h) (z_p2 h) dX4_throughLosing_88
    · refine z_iload_n (pc := 28) X.1 hl 2 rfl rfl dX4_throughLosing_28 ?_
      refine z_iload (pc := 29) X.1 hl 4 rfl dX4_throughLosing_29 ?_
      obtain ⟨g5, h⟩ := z_guard h
      refine z_ishr (pc := 31) X.1 dX4_throughLosing_31 ⟨g5.1, g5.2.1, g5.2.2⟩ ?_
      refine z_iconst (pc := 32) X.1 dX4_throughLosing_32 ?_
      refine z_iand1 (pc := 33) X.1 dX4_throughLosing_33 ?_
      refine z_iconst (pc := 34) X.1 dX4_throughLosing_34 ?_
      obtain ⟨g6, h⟩ := z_guard h
      refine z_icmp_ne (pc := 35) (tgt := 61) X.1 dX4_throughLosing_35 (by decide) ⟨g6, (by decide)⟩ h (fun c11 h => ?_) (fun c11 h => ?_)
      · exact CJ4_throughLosing_61 X N (L4_throughLosing_22 N k) ih x2 x3 r4 x5 hk_r4 μ h _ _ ls hW (lv_sub hl [0, 1, 2, 3, 4] rfl)
      · refine z_aload_n (pc := 38) X.1 hl 0 rfl rfl dX4_throughLosing_38 ?_
        refine z_get7 (pc := 39) X.1 hW rfl iX4_throughLosing_7 3 (by decide) rfl (by decide +kernel) dX4_throughLosing_39 ?_
        refine z_get5 (pc := 42) X.1 hW rfl iX4_throughLosing_5 2 (by decide) rfl (by decide +kernel) dX4_throughLosing_42 ?_
        obtain ⟨g8, h⟩ := z_guard h
        refine z_if_le (pc := 45) (tgt := 61) X.1 dX4_throughLosing_45 (by decide) g8 h (fun c10 h => ?_) (fun c10 h => ?_)
        · exact CJ4_throughLosing_61 X N (L4_throughLosing_22 N k) ih x2 x3 r4 x5 hk_r4 μ h _ _ ls hW (lv_sub hl [0, 1, 2, 3, 4] rfl)
        · refine z_aload_n (pc := 48) X.1 hl 0 rfl rfl dX4_throughLosing_48 ?_
          refine z_get7 (pc := 49) X.1 hW rfl iX4_throughLosing_7 3 (by decide) rfl (by decide +kernel) dX4_throughLosing_49 ?_
          refine z_dup (pc := 52) X.1 dX4_throughLosing_52 rfl ?_
          refine z_get5 (pc := 53) X.1 hW rfl iX4_throughLosing_5 2 (by decide) rfl (by decide +kernel) dX4_throughLosing_53 ?_
          refine z_iconst (pc := 56) X.1 dX4_throughLosing_56 ?_
          refine z_isub (pc := 57) X.1 dX4_throughLosing_57 ?_
          obtain ⟨μ9, eμ9, h⟩ := z_bnd h
          refine z_put5_2 (pc := 58) X.1 hW rfl iX4_throughLosing_5 (by decide +kernel) dX4_throughLosing_58 (fun H locs hW => ?_)
          rw [← eμ9] at hW
          exact CJ4_throughLosing_61 X N (L4_throughLosing_22 N k) ih x2 x3 r4 x5 hk_r4 μ9 h _ _ ls hW (lv_sub hl [0, 1, 2, 3, 4] rfl)
end
theorem C4_throughLosing (l : Launch) {D : va_G} {cy : ClassId × ClassId} {ad : Nat → Nat} (N : Nat) (a0 : Int) (a1 : Int) (a2 : Int) (μ : mm) {res : (Int × mm)} (h : M4_throughLosing N a0 a1 a2 μ = some res) : zI l yX4_throughLosing wsX4_throughLosing 2 D cy ad [.ref (ad 9), .int (iO a0), .int (iO a1), .int (iO a2)] μ res.1 res.2 := by
  refine zI.of RX4 rfl (by decide) rfl (Nat.le_of_ble_eq_true rfl) ?_
  intro p e s m args below meth c A X hW ls hl
  have hl : lv_has ls 6 [(0, .ref (ad 9)), (1, .int (iO a0)), (2, .int (iO a1)), (3, .int (iO a2))] := hl
  unfold M4_throughLosing at h
  refine z_aload_n (pc := 0) X.1 hl 0 rfl rfl dX4_throughLosing_0 ?_
  refine z_get7 (pc := 1) X.1 hW rfl iX4_throughLosing_7 0 (by decide) rfl (by decide +kernel) dX4_throughLosing_1 ?_
  refine z_iload_n (pc := 4) X.1 hl 1 rfl rfl dX4_throughLosing_4 ?_
  obtain ⟨q1, eq1, h⟩ := z_bind h
  obtain ⟨g2, h⟩ := z_guard h
  refine z_callV3R (pc := 5) (n := 1) (As := [.int (iO a0)]) (rest := []) X hW hl rfl (C1_at l N 10 a0 rfl μ eq1) gX4_throughLosing_X1_at rfl (by decide +kernel) rfl (by decide) rfl (Nat.le_of_ble_eq_true rfl) dX4_throughLosing_5 (fun H locs hW => ?_)
  refine z_astore (pc := 8) (i := 4) X.1 [(4, .ref (ad q1)), (0, .ref (ad 9)), (1, .int (iO a0)), (2, .int (iO a1)), (3, .int (iO a2))] hl rfl (by decide) rfl dX4_throughLosing_8 (fun ls hl => ?_)
  refine z_aload_n (pc := 10) X.1 hl 1 rfl rfl dX4_throughLosing_10 ?_
  refine z_get7 (pc := 11) X.1 hW rfl iX4_throughLosing_7 3 (by decide) rfl (by decide +kernel) dX4_throughLosing_11 ?_
  refine z_aload (pc := 14) X.1 hl 0 rfl dX4_throughLosing_14 ?_
  obtain ⟨q3, eq3, h⟩ := z_bind h
  refine z_callV5V (pc := 16) (n := 1) (As := [.ref (ad q1)]) (rest := []) X hW hl rfl (C2_takeFrom l N 43 q1 rfl g2 μ eq3) gX4_throughLosing_X2_takeFrom rfl (by decide +kernel) rfl (by decide) rfl (Nat.le_of_ble_eq_true rfl) dX4_throughLosing_16 (fun H locs hW => ?_)
  refine z_iconst (pc := 19) X.1 dX4_throughLosing_19 ?_
  refine z_istore (pc := 20) (i := 5) X.1 [(5, .int (iO 0)), (4, .ref (ad q1)), (0, .ref (ad 9)), (1, .int (iO a0)), (2, .int (iO a1)), (3, .int (iO a2))] hl rfl (by decide) rfl dX4_throughLosing_20 (fun ls hl => ?_)
  exact CL4_throughLosing_22 X N N a1 a2 q1 0 g2 q3 h _ _ ls hW (lv_sub hl [2, 4, 5, 1, 0] rfl)
-- X4_power
section
variable {p : Program} {l : Launch} {e : Env} {s : State} {m : MethodId} {args : Array Value} {below : List Frame} {meth : Method} {c : Code} {D : va_G} {cy : ClassId × ClassId} {ad : Nat → Nat} {A : Nat → Prop} {res : Int} {μ0 : mm}
theorem CL4_power_5 (X : zX p s m args meth c cX4_power RX4 wsX4_power 6 D cy ad (some .long) A) (N : Nat) : ∀ (k : Nat) (x0 : Int) (x2 : Int) (x3 : Int) (x5 : Int) (μ : mm) (_ : μ = μ0), L4_power_5 N k x0 x2 x3 x5 μ = some res → ∀ (H : Heap) (locs : List Loc) (ls : Array Slot), zW D cy ad A s.heap μ H locs → lv_has ls 6 [(0, .long (lO x0)), (2, .int (iO x2)), (3, .long (lO x3)), (5, .int (iO x5))] → W p l e (rmD 0) s m args below meth c H locs 0 0 (MQ below (zQl D cy ad A res μ0) args s 0 0 A) (F0 m 5 ls []) := by
  intro k
  induction k with
  | zero =>
    intro x0 x2 x3 x5 μ em h H locs ls hW hl
    exact absurd h (by rw [L4_power_5]; exact fun z => by cases z)
  | succ k ih =>
    intro x0 x2 x3 x5 μ em h H locs ls hW hl
    rw [L4_power_5] at h
    refine z_iload (pc := 5) X.1 hl 3 rfl dX4_power_5 ?_
    refine z_iload_n (pc := 7) X.1 hl 1 rfl rfl dX4_power_7 ?_
    obtain ⟨g1, h⟩ := z_guard h
    refine z_icmp_ge (pc := 8) (tgt := 21) X.1 dX4_power_8 (by decide) ⟨g1.1, g1.2⟩ h (fun c3 h => ?_) (fun c3 h => ?_)
    · refine z_lload_n (pc := 21) X.1 hl 2 rfl rfl dX4_power_21 ?_
      exact z_lret (pc := 22) X hW (Option.some.inj h) em dX4_power_22
    · refine z_lload_n (pc := 11) X.1 hl 2 rfl rfl dX4_power_11 ?_
      refine z_lload_n (pc := 12) X.1 hl 0 rfl rfl dX4_power_12 ?_
      refine z_lmul (pc := 13) X.1 dX4_power_13 ?_
      obtain ⟨w2, ew2, h⟩ := z_bnd h
      refine z_lstore_n (pc := 14) (i := 3) X.1 [(3, .long (lO w2)), (0, .long (lO x0)), (2, .int (iO x2)), (5, .int (iO x5))] hl ew2 rfl (by decide) rfl dX4_power_14 (fun ls hl => ?_)
      refine z_iinc (pc := 15) (i := 5) X.1 [(5, .int (iO (x5 + 1))), (3, .long (lO w2)), (0, .long (lO x0)), (2, .int (iO x2))] hl 3 rfl rfl (by decide) rfl dX4_power_15 (fun ls hl => ?_)
      refine z_goto (pc := 18) (tgt := 5) X.1 dX4_power_18 (by decide) ?_
      exact ih x0 x2 w2 (x5 + 1) μ em h _ _ ls hW (lv_sub hl [2, 3, 1, 0] rfl)
end
theorem C4_power (l : Launch) {D : va_G} {cy : ClassId × ClassId} {ad : Nat → Nat} (N : Nat) (a0 : Int) (a1 : Int) (μ0 : mm) {res : Int} (h : M4_power N a0 a1 μ0 = some res) : zJ l yX4_power wsX4_power 0 D cy ad [.long (lO a0), .int (iO a1)] μ0 res μ0 := by
  refine zJ.of RX4 rfl (by decide) rfl (Nat.le_of_ble_eq_true rfl) ?_
  intro p e s m args below meth c A X hW ls hl
  have hl : lv_has ls 6 [(0, .long (lO a0)), (2, .int (iO a1))] := hl
  unfold M4_power at h
  refine z_lconst1 (pc := 0) X.1 dX4_power_0 ?_
  refine z_lstore_n (pc := 1) (i := 3) X.1 [(3, .long (lO 1)), (0, .long (lO a0)), (2, .int (iO a1))] hl rfl rfl (by decide) rfl dX4_power_1 (fun ls hl => ?_)
  refine z_iconst (pc := 2) X.1 dX4_power_2 ?_
  refine z_istore (pc := 3) (i := 5) X.1 [(5, .int (iO 0)), (3, .long (lO 1)), (0, .long (lO a0)), (2, .int (iO a1))] hl rfl (by decide) rfl dX4_power_3 (fun ls hl => ?_)
  exact CL4_power_5 X N N a0 a1 1 0 μ0 rfl h _ _ ls hW (lv_sub hl [2, 3, 1, 0] rfl)
-- X4_leastTerms
section
variable {p : Program} {l : Launch} {e : Env} {s : State} {m : MethodId} {args : Array Value} {below : List Frame} {meth : Method} {c : Code} {D : va_G} {cy : ClassId × ClassId} {ad : Nat → Nat} {A : Nat → Prop} {res : Int} {μ0 : mm}
theorem CJ4_leastTerms_60 (X : zX p s m args meth c cX4_leastTerms RX4 wsX4_leastTerms 12 D cy ad (some .long) A) (N : Nat) : ∀ (x0 : Int) (x2 : Int) (x4 : Int) (x5 : Int) (μ : mm) (_ : μ = μ0), J4_leastTerms_60 N x0 x2 x4 x5 μ = some res → ∀ (H : Heap) (locs : List Loc) (ls : Array Slot), zW D cy ad A s.heap μ H locs → lv_has ls 12 [(0, .long (lO x0)), (2, .long (lO x2)), (4, .int (iO x4)), (5, .long (lO x5))] → W p l e (rmD 0) s m args below meth c H locs 0 0 (MQ below (zQl D cy ad A res μ0) args s 0 0 A) (F0 m 60 ls []) := by
  intro x0 x2 x4 x5 μ em h H locs ls hW hl
  rw [J4_leastTerms_60] at h
  refine z_lload (pc := 60) X.1 hl 3 rfl dX4_leastTerms_60 ?_
  refine z_lconst0 (pc := 62) X.1 dX4_leastTerms_62 ?_
  obtain ⟨g7, h⟩ := z_guard h
  refine z_lcmp (pc := 63) X.1 dX4_leastTerms_63 ⟨g7, (by decide)⟩ ?_
  obtain ⟨g8, h⟩ := z_guard h
  refine z_if_ne (pc := 64) (tgt := 71) X.1 dX4_leastTerms_64 (by decide) g8 h (fun c14 h => ?_) (fun c14 h => ?_)
  · refine z_iload (pc := 71) X.1 hl 2 rfl dX4_leastTerms_71 ?_
    obtain ⟨g9, h⟩ := z_guard h
    refine z_if_ne (pc := 73) (tgt := 83) X.1 dX4_leastTerms_73 (by decide) g9 h (fun c12 h => ?_) (fun c12 h => ?_)
    · refine z_lload_n (pc := 83) X.1 hl 1 rfl rfl dX4_leastTerms_83 ?_
      refine z_lload (pc := 84) X.1 hl 3 rfl dX4_leastTerms_84 ?_
      obtain ⟨g10, h⟩ := z_guard h
      refine z_ldiv (pc := 86) X.1 dX4_leastTerms_86 ⟨g10.1, g10.2.1, g10.2.2.1, g10.2.2.2⟩ ?_
      exact z_lret (pc := 87) X hW (Option.some.inj h) em dX4_leastTerms_87
    · refine z_lload_n (pc := 76) X.1 hl 0 rfl rfl dX4_leastTerms_76 ?_
      refine z_lload (pc := 77) X.1 hl 3 rfl dX4_leastTerms_77 ?_
      obtain ⟨g11, h⟩ := z_guard h
      refine z_ldiv (pc := 79) X.1 dX4_leastTerms_79 ⟨g11.1, g11.2.1, g11.2.2.1, g11.2.2.2⟩ ?_
      refine z_goto (pc := 80) (tgt := 87) X.1 dX4_leastTerms_80 (by decide) ?_
      exact z_lret (pc := 87) X hW (Option.some.inj h) em dX4_leastTerms_87
  · refine z_iload (pc := 67) X.1 hl 2 rfl dX4_leastTerms_67 ?_
    obtain ⟨g13, h⟩ := z_guard h
    refine z_i2l (pc := 69) X.1 dX4_leastTerms_69 g13 ?_
    exact z_lret (pc := 70) X hW (Option.some.inj h) em dX4_leastTerms_70
theorem CL4_leastTerms_25 (X : zX p s m args meth c cX4_leastTerms RX4 wsX4_leastTerms 12 D cy ad (some .long) A) (N : Nat) : ∀ (k : Nat) (x0 : Int) (x2 : Int) (x4 : Int) (x5 : Int) (x7 : Int) (x9 : Int) (μ : mm) (_ : μ = μ0), L4_leastTerms_25 N k x0 x2 x4 x5 x7 x9 μ = some res → ∀ (H : Heap) (locs : List Loc) (ls : Array Slot), zW D cy ad A s.heap μ H locs → lv_has ls 12 [(0, .long (lO x0)), (2, .long (lO x2)), (4, .int (iO x4)), (5, .long (lO x5)), (7, .long (lO x7)), (9, .int (iO x9))] → W p l e (rmD 0) s m args below meth c H locs 0 0 (MQ below (zQl D cy ad A res μ0) args s 0 0 A) (F0 m 25 ls []) := by
  intro k
  induction k with
  | zero =>
    intro x0 x2 x4 x5 x7 x9 μ em h H locs ls hW hl
    exact absurd h (by rw [L4_leastTerms_25]; exact fun z => by cases z)
  | succ k ih =>
    intro x0 x2 x4 x5 x7 x9 μ em h H locs ls hW hl
    rw [L4_leastTerms_25] at h
    refine z_iload (pc := 25) X.1 hl 5 rfl dX4_leastTerms_25 ?_
    refine z_bipush (pc := 27) X.1 dX4_leastTerms_27 (by decide) ?_
    obtain ⟨g6, h⟩ := z_guard h
    refine z_icmp_ge (pc := 29) (tgt := 60) X.1 dX4_leastTerms_29 (by decide) ⟨g6, (by decide)⟩ h (fun c20 h => ?_) (fun c20 h => ?_)
    · exact CJ4_leastTerms_60 X N x0 x2 x4 x5 μ em h _ _ ls hW (lv_sub hl [0, 1, 2, 3] rfl)
    · refine z_lload (pc := 32) X.1 hl 4 rfl dX4_leastTerms_32 ?_
      refine z_lconst0 (pc := 34) X.1 dX4_leastTerms_34 ?_
      obtain ⟨g15, h⟩ := z_guard h
      refine z_lcmp (pc := 35) X.1 dX4_leastTerms_35 ⟨g15, (by decide)⟩ ?_
      obtain ⟨g16, h⟩ := z_guard h
      refine z_if_eq (pc := 36) (tgt := 60) X.1 dX4_leastTerms_36 (by decide) g16 h (fun c19 h => ?_) (fun c19 h => ?_)
      · exact CJ4_leastTerms_60 X N x0 x2 x4 x5 μ em h _ _ ls hW (lv_sub hl [0, 1, 2, 3] rfl)
      · refine z_lload (pc := 39) X.1 hl 3 rfl dX4_leastTerms_39 ?_
        refine z_lload (pc := 41) X.1 hl 4 rfl dX4_leastTerms_41 ?_
        obtain ⟨g17, h⟩ := z_guard h
        refine z_lrem (pc := 43) X.1 dX4_leastTerms_43 ⟨g17.1, g17.2.1, g17.2.2.1, g17.2.2.2⟩ ?_
        obtain ⟨w18, ew18, h⟩ := z_bnd h
        refine z_lstore (pc := 44) (i := 10) X.1 [(10, .long (lO w18)), (0, .long (lO x0)), (2, .long (lO x2)), (4, .int (iO x4)), (5, .long (lO x5)), (7, .long (lO x7)), (9, .int (iO x9))] hl ew18 (by decide) rfl dX4_leastTerms_44 (fun ls hl => ?_)
        refine z_lload (pc := 46) X.1 hl 5 rfl dX4_leastTerms_46 ?_
        refine z_lstore (pc := 48) (i := 5) X.1 [(5, .long (lO x7)), (10, .long (lO w18)), (0, .long (lO x0)), (2, .long (lO x2)), (4, .int (iO x4)), (7, .long (lO x7)), (9, .int (iO x9))] hl rfl (by decide) rfl dX4_leastTerms_48 (fun ls hl => ?_)
        refine z_lload (pc := 50) X.1 hl 1 rfl dX4_leastTerms_50 ?_
        refine z_lstore (pc := 52) (i := 7) X.1 [(7, .long (lO w18)), (5, .long (lO x7)), (10, .long (lO w18)), (0, .long (lO x0)), (2, .long (lO x2)), (4, .int (iO x4)), (9, .int (iO x9))] hl rfl (by decide) rfl dX4_leastTerms_52 (fun ls hl => ?_)
        refine z_iinc (pc := 54) (i := 9) X.1 [(9, .int (iO (x9 + 1))), (7, .long (lO w18)), (5, .long (lO x7)), (10, .long (lO w18)), (0, .long (lO x0)), (2, .long (lO x2)), (4, .int (iO x4))] hl 6 rfl rfl (by decide) rfl dX4_leastTerms_54 (fun ls hl => ?_)
        refine z_goto (pc := 57) (tgt := 25) X.1 dX4_leastTerms_57 (by decide) ?_
        exact ih x0 x2 x4 x7 w18 (x9 + 1) μ em h _ _ ls hW (lv_sub hl [4, 5, 6, 2, 1, 0] rfl)
end
theorem C4_leastTerms (l : Launch) {D : va_G} {cy : ClassId × ClassId} {ad : Nat → Nat} (N : Nat) (a0 : Int) (a1 : Int) (a2 : Int) (μ0 : mm) {res : Int} (h : M4_leastTerms N a0 a1 a2 μ0 = some res) : zJ l yX4_leastTerms wsX4_leastTerms 0 D cy ad [.long (lO a0), .long (lO a1), .int (iO a2)] μ0 res μ0 := by
  refine zJ.of RX4 rfl (by decide) rfl (Nat.le_of_ble_eq_true rfl) ?_
  intro p e s m args below meth c A X hW ls hl
  have hl : lv_has ls 12 [(0, .long (lO a0)), (2, .long (lO a1)), (4, .int (iO a2))] := hl
  unfold M4_leastTerms at h
  refine z_lload_n (pc := 0) X.1 hl 0 rfl rfl dX4_leastTerms_0 ?_
  refine z_lconst0 (pc := 1) X.1 dX4_leastTerms_1 ?_
  obtain ⟨g1, h⟩ := z_guard h
  refine z_lcmp (pc := 2) X.1 dX4_leastTerms_2 ⟨g1, (by decide)⟩ ?_
  obtain ⟨g2, h⟩ := z_guard h
  refine z_if_eq (pc := 3) (tgt := 12) X.1 dX4_leastTerms_3 (by decide) g2 h (fun c23 h => ?_) (fun c23 h => ?_)
  · refine z_iload (pc := 12) X.1 hl 2 rfl dX4_leastTerms_12 ?_
    obtain ⟨g3, h⟩ := z_guard h
    refine z_i2l (pc := 14) X.1 dX4_leastTerms_14 g3 ?_
    exact z_lret (pc := 15) X hW (Option.some.inj h) rfl dX4_leastTerms_15
  · refine z_lload_n (pc := 6) X.1 hl 1 rfl rfl dX4_leastTerms_6 ?_
    refine z_lconst0 (pc := 7) X.1 dX4_leastTerms_7 ?_
    obtain ⟨g4, h⟩ := z_guard h
    refine z_lcmp (pc := 8) X.1 dX4_leastTerms_8 ⟨g4, (by decide)⟩ ?_
    obtain ⟨g5, h⟩ := z_guard h
    refine z_if_ne (pc := 9) (tgt := 16) X.1 dX4_leastTerms_9 (by decide) g5 h (fun c22 h => ?_) (fun c22 h => ?_)
    · refine z_lload_n (pc := 16) X.1 hl 0 rfl rfl dX4_leastTerms_16 ?_
      refine z_lstore (pc := 17) (i := 5) X.1 [(5, .long (lO a0)), (0, .long (lO a0)), (2, .long (lO a1)), (4, .int (iO a2))] hl rfl (by decide) rfl dX4_leastTerms_17 (fun ls hl => ?_)
      refine z_lload_n (pc := 19) X.1 hl 2 rfl rfl dX4_leastTerms_19 ?_
      refine z_lstore (pc := 20) (i := 7) X.1 [(7, .long (lO a1)), (5, .long (lO a0)), (0, .long (lO a0)), (2, .long (lO a1)), (4, .int (iO a2))] hl rfl (by decide) rfl dX4_leastTerms_20 (fun ls hl => ?_)
      refine z_iconst (pc := 22) X.1 dX4_leastTerms_22 ?_
      refine z_istore (pc := 23) (i := 9) X.1 [(9, .int (iO 0)), (7, .long (lO a1)), (5, .long (lO a0)), (0, .long (lO a0)), (2, .long (lO a1)), (4, .int (iO a2))] hl rfl (by decide) rfl dX4_leastTerms_23 (fun ls hl => ?_)
      exact CL4_leastTerms_25 X N N a0 a1 a2 a0 a1 0 μ0 rfl h _ _ ls hW (lv_sub hl [3, 4, 5, 2, 1, 0] rfl)
    · refine z_iload (pc := 12) X.1 hl 2 rfl dX4_leastTerms_12 ?_
      obtain ⟨g21, h⟩ := z_guard h
      refine z_i2l (pc := 14) X.1 dX4_leastTerms_14 g21 ?_
      exact z_lret (pc := 15) X hW (Option.some.inj h) rfl dX4_leastTerms_15
-- X4_slip
section
variable {p : Program} {l : Launch} {e : Env} {s : State} {m : MethodId} {args : Array Value} {below : List Frame} {meth : Method} {c : Code} {D : va_G} {cy : ClassId × ClassId} {ad : Nat → Nat} {A : Nat → Prop} {res : (Int × mm)}
theorem CJ4_slip_139 (X : zX p s m args meth c cX4_slip RX4 wsX4_slip 12 D cy ad (some .long) A) (N : Nat) (rec99 : Int → Int → Int → Int → Int → Int → Int → mm → Option (Int × mm)) (hrec99 : ∀ (x1 : Int) (x2 : Int) (x3 : Int) (x4 : Int) (x5 : Int) (x9 : Int) (x11 : Int) (μ : mm), rec99 x1 x2 x3 x4 x5 x9 x11 μ = some res → ∀ (H : Heap) (locs : List Loc) (ls : Array Slot), zW D cy ad A s.heap μ H locs → lv_has ls 12 [(0, .ref (ad 9)), (1, .int (iO x1)), (2, .int (iO x2)), (3, .int (iO x3)), (4, .int (iO x4)), (5, .int (iO x5)), (9, .long (lO x9)), (11, .int (iO x11))] → W p l e (rmD 3) s m args below meth c H locs 0 0 (MQ below (zQl D cy ad A res.1 res.2) args s 0 0 A) (F0 m 99 ls [])) : ∀ (x1 : Int) (x2 : Int) (x3 : Int) (x4 : Int) (x5 : Int) (x9 : Int) (x11 : Int) (μ : mm), J4_slip_139 N rec99 x1 x2 x3 x4 x5 x9 x11 μ = some res → ∀ (H : Heap) (locs : List Loc) (ls : Array Slot), zW D cy ad A s.heap μ H locs → lv_has ls 12 [(0, .ref (ad 9)), (1, .int (iO x1)), (2, .int (iO x2)), (3, .int (iO x3)), (4, .int (iO x4)), (5, .int (iO x5)), (9, .long (lO x9)), (11, .int (iO x11))] → W p l e (rmD 3) s m args below meth c H locs 0 0 (MQ below (zQl D cy ad A res.1 res.2) args s 0 0 A) (F0 m 139 ls []) := by
  intro x1 x2 x3 x4 x5 x9 x11 μ h H locs ls hW hl
  rw [J4_slip_139] at h
  refine z_iinc (pc := 139) (i := 11) X.1 [(11, .int (iO (x11 + 1))), (0, .ref (ad 9)), (1, .int (iO x1)), (2, .int (iO x2)), (3, .int (iO x3)), (4, .int (iO x4)), (5, .int (iO x5)), (9, .long (lO x9))] hl 7 rfl rfl (by decide) rfl dX4_slip_139 (fun ls hl => ?_)
  refine z_goto (pc := 142) (tgt := 99) X.1 dX4_slip_142 (by decide) ?_
  exact hrec99 x1 x2 x3 x4 x5 x9 (x11 + 1) μ h _ _ ls hW (lv_sub hl [1, 2, 3, 4, 5, 6, 7, 0] rfl)
theorem CL4_slip_99 (X : zX p s m args meth c cX4_slip RX4 wsX4_slip 12 D cy ad (some .long) A) (N : Nat) : ∀ (k : Nat) (x1 : Int) (x2 : Int) (x3 : Int) (x4 : Int) (x5 : Int) (x9 : Int) (x11 : Int) (μ : mm), L4_slip_99 N k x1 x2 x3 x4 x5 x9 x11 μ = some res → ∀ (H : Heap) (locs : List Loc) (ls : Array Slot), zW D cy ad A s.heap μ H locs → lv_has ls 12 [(0, .ref (ad 9)), (1, .int (iO x1)), (2, .int (iO x2)), (3, .int (iO x3)), (4, .int (iO x4)), (5, .int (iO x5)), (9, .long (lO x9)), (11, .int (iO x11))] → W p l e (rmD 3) s m args below meth c H locs 0 0 (MQ below (zQl D cy ad A res.1 res.2) args s 0 0 A) (F0 m 99 ls []) := by
  intro k
  induction k with
  | zero =>
    intro x1 x2 x3 x4 x5 x9 x11 μ h H locs ls hW hl
    exact absurd h (by rw [L4_slip_99]; exact fun z => by cases z)
  | succ k ih =>
    intro x1 x2 x3 x4 x5 x9 x11 μ h H locs ls hW hl
    rw [L4_slip_99] at h
    refine z_iload (pc := 99) X.1 hl 7 rfl dX4_slip_99 ?_
    refine z_iconst (pc := 101) X.1 dX4_slip_101 ?_
    refine z_iload_n (pc := 102) X.1 hl 2 rfl rfl dX4_slip_102 ?_
    obtain ⟨g7, h⟩ := z_guard h
    refine z_ishl (pc := 103) X.1 dX4_slip_103 ⟨g7.1, g7.2⟩ ?_
    obtain ⟨g8, h⟩ := z_guard h
    refine z_icmp_ge (pc := 104) (tgt := 145) X.1 dX4_slip_104 (by decide) ⟨g8.1, g8.2⟩ h (fun c19 h => ?_) (fun c19 h => ?_)
    · refine z_lload (pc := 145) X.1 hl 6 rfl dX4_slip_145 ?_
      refine z_iload_n (pc := 147) X.1 hl 3 rfl rfl dX4_slip_147 ?_
      obtain ⟨g9, h⟩ := z_guard h
      refine z_i2l (pc := 148) X.1 dX4_slip_148 g9 ?_
      refine z_iload_n (pc := 149) X.1 hl 2 rfl rfl dX4_slip_149 ?_
      obtain ⟨q10, eq10, h⟩ := z_bind h
      refine z_callSJ (pc := 150) (n := 2) (As := [.long (lO x3), .int (iO x2)]) (rest := [.long (lO x9)]) X hW hl (C4_power l N x3 x2 μ eq10) gX4_slip_X4_power rfl (by decide +kernel) rfl (by decide) rfl (Nat.le_of_ble_eq_true rfl) dX4_slip_150 (fun H locs hW => ?_)
      refine z_iload (pc := 153) X.1 hl 5 rfl dX4_slip_153 ?_
      obtain ⟨q11, eq11, h⟩ := z_bind h
      refine z_callSJ (pc := 155) (n := 3) (As := [.long (lO x9), .long (lO q10), .int (iO x5)]) (rest := []) X hW hl (C4_leastTerms l N x9 q10 x5 μ eq11) gX4_slip_X4_leastTerms rfl (by decide +kernel) rfl (by decide) rfl (Nat.le_of_ble_eq_true rfl) dX4_slip_155 (fun H locs hW => ?_)
      exact z_lret (pc := 158) X hW (z_p1 h) (z_p2 h) dX4_slip_158
    · refine z_aload_n (pc := 107) X.1 hl 0 rfl rfl dX4_slip_107 ?_
      refine z_iload_n (pc := 108) X.1 hl 1 rfl rfl dX4_slip_108 ?_
      refine z_iload_n (pc := 109) X.1 hl 2 rfl rfl dX4_slip_109 ?_
      refine z_iload (pc := 110) X.1 hl 7 rfl dX4_slip_110 ?_
      obtain ⟨q12, eq12, h⟩ := z_bind h
      refine z_callV7I (pc := 112) (n := 3) (As := [.int (iO x1), .int (iO x2), .int (iO x11)]) (rest := []) X hW hl rfl (C4_throughLosing l N x1 x2 x11 μ eq12) gX4_slip_X4_throughLosing rfl (by decide +kernel) rfl (by decide) rfl (Nat.le_of_ble_eq_true rfl) dX4_slip_112 (fun H locs hW => ?_)
      refine z_iload (pc := 115) X.1 hl 4 rfl dX4_slip_115 ?_
      obtain ⟨g13, h⟩ := z_guard h
      refine z_icmp_lt (pc := 117) (tgt := 139) X.1 dX4_slip_117 (by decide) ⟨g13.1, g13.2⟩ h (fun c18 h => ?_) (fun c18 h => ?_)
      · exact CJ4_slip_139 X N (L4_slip_99 N k) ih x1 x2 x3 x4 x5 x9 x11 q12.2 h _ _ ls hW (lv_sub hl [0, 1, 2, 3, 4, 5, 6, 7] rfl)
      · refine z_lload (pc := 120) X.1 hl 6 rfl dX4_slip_120 ?_
        refine z_iload_n (pc := 122) X.1 hl 3 rfl rfl dX4_slip_122 ?_
        refine z_iconst (pc := 123) X.1 dX4_slip_123 ?_
        refine z_isub (pc := 124) X.1 dX4_slip_124 ?_
        obtain ⟨g14, h⟩ := z_guard h
        refine z_i2l (pc := 125) X.1 dX4_slip_125 g14 ?_
        refine z_iload_n (pc := 126) X.1 hl 2 rfl rfl dX4_slip_126 ?_
        refine z_iload (pc := 127) X.1 hl 7 rfl dX4_slip_127 ?_
        obtain ⟨q15, eq15, h⟩ := z_bind h
        refine z_callSI (pc := 129) (n := 1) (As := [.int (iO x11)]) (rest := [.int (iO x2), .long (lO (x3 - 1)), .long (lO x9)]) X hW hl (C6_bitCount_0f7a4 l N x11 q12.2 eq15) gX4_slip_J6_bitCount_0f7a4 rfl (by decide +kernel) rfl (by decide) rfl (Nat.le_of_ble_eq_true rfl) dX4_slip_129 (fun H locs hW => ?_)
        refine z_isub (pc := 132) X.1 dX4_slip_132 ?_
        obtain ⟨q16, eq16, h⟩ := z_bind h
        refine z_callSJ (pc := 133) (n := 2) (As := [.long (lO (x3 - 1)), .int (iO (x2 - q15))]) (rest := [.long (lO x9)]) X hW hl (C4_power l N (x3 - 1) (x2 - q15) q12.2 eq16) gX4_slip_X4_power rfl (by decide +kernel) rfl (by decide) rfl (Nat.le_of_ble_eq_true rfl) dX4_slip_133 (fun H locs hW => ?_)
        refine z_ladd (pc := 136) X.1 dX4_slip_136 ?_
        obtain ⟨w17, ew17, h⟩ := z_bnd h
        refine z_lstore (pc := 137) (i := 9) X.1 [(9, .long (lO w17)), (0, .ref (ad 9)), (1, .int (iO x1)), (2, .int (iO x2)), (3, .int (iO x3)), (4, .int (iO x4)), (5, .int (iO x5)), (11, .int (iO x11))] hl ew17 (by decide) rfl dX4_slip_137 (fun ls hl => ?_)
        exact CJ4_slip_139 X N (L4_slip_99 N k) ih x1 x2 x3 x4 x5 w17 x11 q12.2 h _ _ ls hW (lv_sub hl [1, 2, 3, 4, 5, 6, 0, 7] rfl)
theorem CJ4_slip_76 (X : zX p s m args meth c cX4_slip RX4 wsX4_slip 12 D cy ad (some .long) A) (N : Nat) : ∀ (x1 : Int) (x2 : Int) (x3 : Int) (x4 : Int) (x5 : Int) (x8 : Int) (μ : mm), J4_slip_76 N x1 x2 x3 x4 x5 x8 μ = some res → ∀ (H : Heap) (locs : List Loc) (ls : Array Slot), zW D cy ad A s.heap μ H locs → lv_has ls 12 [(0, .ref (ad 9)), (1, .int (iO x1)), (2, .int (iO x2)), (3, .int (iO x3)), (4, .int (iO x4)), (5, .int (iO x5)), (8, .int (iO x8))] → W p l e (rmD 3) s m args below meth c H locs 0 0 (MQ below (zQl D cy ad A res.1 res.2) args s 0 0 A) (F0 m 76 ls []) := by
  intro x1 x2 x3 x4 x5 x8 μ h H locs ls hW hl
  rw [J4_slip_76] at h
  refine z_iload (pc := 76) X.1 hl 6 rfl dX4_slip_76 ?_
  obtain ⟨g6, h⟩ := z_guard h
  refine z_if_eq (pc := 78) (tgt := 93) X.1 dX4_slip_78 (by decide) g6 h (fun c22 h => ?_) (fun c22 h => ?_)
  · refine z_lconst0 (pc := 93) X.1 dX4_slip_93 ?_
    refine z_lstore (pc := 94) (i := 9) X.1 [(9, .long (lO 0)), (0, .ref (ad 9)), (1, .int (iO x1)), (2, .int (iO x2)), (3, .int (iO x3)), (4, .int (iO x4)), (5, .int (iO x5)), (8, .int (iO x8))] hl rfl (by decide) rfl dX4_slip_94 (fun ls hl => ?_)
    refine z_iconst (pc := 96) X.1 dX4_slip_96 ?_
    refine z_istore (pc := 97) (i := 11) X.1 [(11, .int (iO 0)), (9, .long (lO 0)), (0, .ref (ad 9)), (1, .int (iO x1)), (2, .int (iO x2)), (3, .int (iO x3)), (4, .int (iO x4)), (5, .int (iO x5)), (8, .int (iO x8))] hl rfl (by decide) rfl dX4_slip_97 (fun ls hl => ?_)
    exact CL4_slip_99 X N N x1 x2 x3 x4 x5 0 0 μ h _ _ ls hW (lv_sub hl [2, 3, 4, 5, 6, 7, 1, 0] rfl)
  · refine z_ldc2 (pc := 81) (n := 4000000000000000000) X.1 (by decide +kernel) dX4_slip_81 ?_
    refine z_aload_n (pc := 84) X.1 hl 0 rfl rfl dX4_slip_84 ?_
    refine z_iload (pc := 85) X.1 hl 6 rfl dX4_slip_85 ?_
    obtain ⟨q20, eq20, h⟩ := z_bind h
    refine z_callV7I (pc := 87) (n := 1) (As := [.int (iO x8)]) (rest := [.long (lO 4000000000000000000)]) X hW hl rfl (C4_refused l N x8 μ eq20) gX4_slip_X4_refused rfl (by decide +kernel) rfl (by decide) rfl (Nat.le_of_ble_eq_true rfl) dX4_slip_87 (fun H locs hW => ?_)
    obtain ⟨g21, h⟩ := z_guard h
    refine z_i2l (pc := 90) X.1 dX4_slip_90 g21 ?_
    refine z_lsub (pc := 91) X.1 dX4_slip_91 ?_
    exact z_lret (pc := 92) X hW (z_p1 h) (z_p2 h) dX4_slip_92
theorem CJ4_slip_47 (X : zX p s m args meth c cX4_slip RX4 wsX4_slip 12 D cy ad (some .long) A) (N : Nat) : ∀ (x1 : Int) (x2 : Int) (x3 : Int) (x4 : Int) (x5 : Int) (x6 : Int) (y0 : Int) (μ : mm), J4_slip_47 N x1 x2 x3 x4 x5 x6 y0 μ = some res → ∀ (H : Heap) (locs : List Loc) (ls : Array Slot), zW D cy ad A s.heap μ H locs → lv_has ls 12 [(0, .ref (ad 9)), (1, .int (iO x1)), (2, .int (iO x2)), (3, .int (iO x3)), (4, .int (iO x4)), (5, .int (iO x5)), (6, .int (iO x6))] → W p l e (rmD 3) s m args below meth c H locs 0 0 (MQ below (zQl D cy ad A res.1 res.2) args s 0 0 A) (F0 m 47 ls [.int (iO y0)]) := by
  intro x1 x2 x3 x4 x5 x6 y0 μ h H locs ls hW hl
  rw [J4_slip_47] at h
  refine z_istore (pc := 47) (i := 7) X.1 [(7, .int (iO y0)), (0, .ref (ad 9)), (1, .int (iO x1)), (2, .int (iO x2)), (3, .int (iO x3)), (4, .int (iO x4)), (5, .int (iO x5)), (6, .int (iO x6))] hl rfl (by decide) rfl dX4_slip_47 (fun ls hl => ?_)
  refine z_aload_n (pc := 49) X.1 hl 1 rfl rfl dX4_slip_49 ?_
  refine z_iload_n (pc := 50) X.1 hl 2 rfl rfl dX4_slip_50 ?_
  obtain ⟨q3, eq3, h⟩ := z_bind h
  refine z_callV7I (pc := 51) (n := 1) (As := [.int (iO x1)]) (rest := []) X hW hl rfl (C4_unknown l N x1 μ eq3) gX4_slip_X4_unknown rfl (by decide +kernel) rfl (by decide) rfl (Nat.le_of_ble_eq_true rfl) dX4_slip_51 (fun H locs hW => ?_)
  refine z_iload (pc := 54) X.1 hl 7 rfl dX4_slip_54 ?_
  refine z_iload (pc := 56) X.1 hl 0 rfl dX4_slip_56 ?_
  obtain ⟨q4, eq4, h⟩ := z_bind h
  refine z_callSI (pc := 58) (n := 3) (As := [.int (iO q3), .int (iO x6), .int (iO y0)]) (rest := []) X hW hl (C4_firstOf l N q3 x6 y0 μ eq4) gX4_slip_X4_firstOf rfl (by decide +kernel) rfl (by decide) rfl (Nat.le_of_ble_eq_true rfl) dX4_slip_58 (fun H locs hW => ?_)
  refine z_istore (pc := 61) (i := 8) X.1 [(8, .int (iO q4)), (7, .int (iO y0)), (0, .ref (ad 9)), (1, .int (iO x1)), (2, .int (iO x2)), (3, .int (iO x3)), (4, .int (iO x4)), (5, .int (iO x5)), (6, .int (iO x6))] hl rfl (by decide) rfl dX4_slip_61 (fun ls hl => ?_)
  refine z_iload (pc := 63) X.1 hl 0 rfl dX4_slip_63 ?_
  obtain ⟨g5, h⟩ := z_guard h
  refine z_if_ne (pc := 65) (tgt := 76) X.1 dX4_slip_65 (by decide) g5 h (fun c24 h => ?_) (fun c24 h => ?_)
  · exact CJ4_slip_76 X N x1 x2 x3 x4 x5 q4 μ h _ _ ls hW (lv_sub hl [2, 3, 4, 5, 6, 7, 0] rfl)
  · refine z_iload (pc := 68) X.1 hl 7 rfl dX4_slip_68 ?_
    refine z_iconst (pc := 70) X.1 dX4_slip_70 ?_
    obtain ⟨q23, eq23, h⟩ := z_bind h
    refine z_callSI (pc := 71) (n := 2) (As := [.int (iO x5), .int (iO 1)]) (rest := []) X hW hl (C4_other l N x5 1 μ eq23) gX4_slip_X4_other rfl (by decide +kernel) rfl (by decide) rfl (Nat.le_of_ble_eq_true rfl) dX4_slip_71 (fun H locs hW => ?_)
    refine z_istore (pc := 74) (i := 8) X.1 [(8, .int (iO q23)), (7, .int (iO y0)), (0, .ref (ad 9)), (1, .int (iO x1)), (2, .int (iO x2)), (3, .int (iO x3)), (4, .int (iO x4)), (5, .int (iO x5)), (6, .int (iO x6))] hl rfl (by decide) rfl dX4_slip_74 (fun ls hl => ?_)
    exact CJ4_slip_76 X N x1 x2 x3 x4 x5 q23 μ h _ _ ls hW (lv_sub hl [2, 3, 4, 5, 6, 7, 0] rfl)
theorem CJ4_slip_41 (X : zX p s m args meth c cX4_slip RX4 wsX4_slip 12 D cy ad (some .long) A) (N : Nat) : ∀ (x1 : Int) (x2 : Int) (x3 : Int) (x4 : Int) (x5 : Int) (x6 : Int) (μ : mm), J4_slip_41 N x1 x2 x3 x4 x5 x6 μ = some res → ∀ (H : Heap) (locs : List Loc) (ls : Array Slot), zW D cy ad A s.heap μ H locs → lv_has ls 12 [(0, .ref (ad 9)), (1, .int (iO x1)), (2, .int (iO x2)), (3, .int (iO x3)), (4, .int (iO x4)), (5, .int (iO x5)), (6, .int (iO x6))] → W p l e (rmD 3) s m args below meth c H locs 0 0 (MQ below (zQl D cy ad A res.1 res.2) args s 0 0 A) (F0 m 41 ls []) := by
  intro x1 x2 x3 x4 x5 x6 μ h H locs ls hW hl
  rw [J4_slip_41] at h
  refine z_bipush (pc := 41) X.1 dX4_slip_41 (by decide) ?_
  refine z_goto (pc := 43) (tgt := 47) X.1 dX4_slip_43 (by decide) ?_
  exact CJ4_slip_47 X N x1 x2 x3 x4 x5 x6 (-6) μ h _ _ ls hW (lv_sub hl [0, 1, 2, 3, 4, 5, 6] rfl)
theorem CJ4_slip_20 (X : zX p s m args meth c cX4_slip RX4 wsX4_slip 12 D cy ad (some .long) A) (N : Nat) : ∀ (x1 : Int) (x2 : Int) (x3 : Int) (x4 : Int) (x5 : Int) (y0 : Int) (μ : mm), J4_slip_20 N x1 x2 x3 x4 x5 y0 μ = some res → ∀ (H : Heap) (locs : List Loc) (ls : Array Slot), zW D cy ad A s.heap μ H locs → lv_has ls 12 [(0, .ref (ad 9)), (1, .int (iO x1)), (2, .int (iO x2)), (3, .int (iO x3)), (4, .int (iO x4)), (5, .int (iO x5))] → W p l e (rmD 3) s m args below meth c H locs 0 0 (MQ below (zQl D cy ad A res.1 res.2) args s 0 0 A) (F0 m 20 ls [.int (iO y0)]) := by
  intro x1 x2 x3 x4 x5 y0 μ h H locs ls hW hl
  rw [J4_slip_20] at h
  refine z_istore (pc := 20) (i := 6) X.1 [(6, .int (iO y0)), (0, .ref (ad 9)), (1, .int (iO x1)), (2, .int (iO x2)), (3, .int (iO x3)), (4, .int (iO x4)), (5, .int (iO x5))] hl rfl (by decide) rfl dX4_slip_20 (fun ls hl => ?_)
  refine z_iload_n (pc := 22) X.1 hl 3 rfl rfl dX4_slip_22 ?_
  refine z_bipush (pc := 23) X.1 dX4_slip_23 (by decide) ?_
  obtain ⟨g2, h⟩ := z_guard h
  refine z_icmp_gt (pc := 25) (tgt := 41) X.1 dX4_slip_25 (by decide) ⟨g2, (by decide)⟩ h (fun c29 h => ?_) (fun c29 h => ?_)
  · exact CJ4_slip_41 X N x1 x2 x3 x4 x5 y0 μ h _ _ ls hW (lv_sub hl [1, 2, 3, 4, 5, 6, 0] rfl)
  · refine z_iload_n (pc := 28) X.1 hl 4 rfl rfl dX4_slip_28 ?_
    refine z_bipush (pc := 29) X.1 dX4_slip_29 (by decide) ?_
    obtain ⟨g25, h⟩ := z_guard h
    refine z_icmp_gt (pc := 31) (tgt := 41) X.1 dX4_slip_31 (by decide) ⟨g25, (by decide)⟩ h (fun c28 h => ?_) (fun c28 h => ?_)
    · exact CJ4_slip_41 X N x1 x2 x3 x4 x5 y0 μ h _ _ ls hW (lv_sub hl [1, 2, 3, 4, 5, 6, 0] rfl)
    · refine z_iload (pc := 34) X.1 hl 5 rfl dX4_slip_34 ?_
      refine z_bipush (pc := 36) X.1 dX4_slip_36 (by decide) ?_
      obtain ⟨g26, h⟩ := z_guard h
      refine z_icmp_le (pc := 38) (tgt := 46) X.1 dX4_slip_38 (by decide) ⟨g26, (by decide)⟩ h (fun c27 h => ?_) (fun c27 h => ?_)
      · refine z_iconst (pc := 46) X.1 dX4_slip_46 ?_
        exact CJ4_slip_47 X N x1 x2 x3 x4 x5 y0 0 μ h _ _ ls hW (lv_sub hl [1, 2, 3, 4, 5, 6, 0] rfl)
      · exact CJ4_slip_41 X N x1 x2 x3 x4 x5 y0 μ h _ _ ls hW (lv_sub hl [1, 2, 3, 4, 5, 6, 0] rfl)
theorem CJ4_slip_14 (X : zX p s m args meth c cX4_slip RX4 wsX4_slip 12 D cy ad (some .long) A) (N : Nat) : ∀ (x1 : Int) (x2 : Int) (x3 : Int) (x4 : Int) (x5 : Int) (μ : mm), J4_slip_14 N x1 x2 x3 x4 x5 μ = some res → ∀ (H : Heap) (locs : List Loc) (ls : Array Slot), zW D cy ad A s.heap μ H locs → lv_has ls 12 [(0, .ref (ad 9)), (1, .int (iO x1)), (2, .int (iO x2)), (3, .int (iO x3)), (4, .int (iO x4)), (5, .int (iO x5))] → W p l e (rmD 3) s m args below meth c H locs 0 0 (MQ below (zQl D cy ad A res.1 res.2) args s 0 0 A) (F0 m 14 ls []) := by
  intro x1 x2 x3 x4 x5 μ h H locs ls hW hl
  rw [J4_slip_14] at h
  refine z_bipush (pc := 14) X.1 dX4_slip_14 (by decide) ?_
  refine z_goto (pc := 16) (tgt := 20) X.1 dX4_slip_16 (by decide) ?_
  exact CJ4_slip_20 X N x1 x2 x3 x4 x5 (-4) μ h _ _ ls hW (lv_sub hl [0, 1, 2, 3, 4, 5] rfl)
end
theorem C4_slip (l : Launch) {D : va_G} {cy : ClassId × ClassId} {ad : Nat → Nat} (N : Nat) (a0 : Int) (a1 : Int) (a2 : Int) (a3 : Int) (a4 : Int) (μ : mm) {res : (Int × mm)} (h : M4_slip N a0 a1 a2 a3 a4 μ = some res) : zJ l yX4_slip wsX4_slip 3 D cy ad [.ref (ad 9), .int (iO a0), .int (iO a1), .int (iO a2), .int (iO a3), .int (iO a4)] μ res.1 res.2 := by
  refine zJ.of RX4 rfl (by decide) rfl (Nat.le_of_ble_eq_true rfl) ?_
  intro p e s m args below meth c A X hW ls hl
  have hl : lv_has ls 12 [(0, .ref (ad 9)), (1, .int (iO a0)), (2, .int (iO a1)), (3, .int (iO a2)), (4, .int (iO a3)), (5, .int (iO a4))] := hl
  unfold M4_slip at h
  refine z_iload_n (pc := 0) X.1 hl 2 rfl rfl dX4_slip_0 ?_
  obtain ⟨g1, h⟩ := z_guard h
  refine z_if_lt (pc := 1) (tgt := 14) X.1 dX4_slip_1 (by decide) g1 h (fun c34 h => ?_) (fun c34 h => ?_)
  · exact CJ4_slip_14 X N a0 a1 a2 a3 a4 μ h _ _ ls hW (lv_sub hl [0, 1, 2, 3, 4, 5] rfl)
  · refine z_iload (pc := 4) X.1 hl 4 rfl dX4_slip_4 ?_
    obtain ⟨g30, h⟩ := z_guard h
    refine z_if_lt (pc := 6) (tgt := 14) X.1 dX4_slip_6 (by decide) g30 h (fun c33 h => ?_) (fun c33 h => ?_)
    · exact CJ4_slip_14 X N a0 a1 a2 a3 a4 μ h _ _ ls hW (lv_sub hl [0, 1, 2, 3, 4, 5] rfl)
    · refine z_iload_n (pc := 9) X.1 hl 3 rfl rfl dX4_slip_9 ?_
      refine z_iconst (pc := 10) X.1 dX4_slip_10 ?_
      obtain ⟨g31, h⟩ := z_guard h
      refine z_icmp_ge (pc := 11) (tgt := 19) X.1 dX4_slip_11 (by decide) ⟨g31, (by decide)⟩ h (fun c32 h => ?_) (fun c32 h => ?_)
      · refine z_iconst (pc := 19) X.1 dX4_slip_19 ?_
        exact CJ4_slip_20 X N a0 a1 a2 a3 a4 0 μ h _ _ ls hW (lv_sub hl [0, 1, 2, 3, 4, 5] rfl)
      · exact CJ4_slip_14 X N a0 a1 a2 a3 a4 μ h _ _ ls hW (lv_sub hl [0, 1, 2, 3, 4, 5] rfl)
-- X4_mean
theorem iX4_mean_3 : ∀ w ∈ wsX10, w ∈ wsX4_mean := by decide +kernel
theorem iX4_mean_7 : ∀ w ∈ wsX40, w ∈ wsX4_mean := by decide +kernel
theorem C4_mean (l : Launch) {D : va_G} {cy : ClassId × ClassId} {ad : Nat → Nat} (N : Nat) (a0 : Int) (μ : mm) {res : (Int × mm)} (h : M4_mean N a0 μ = some res) : zJ l yX4_mean wsX4_mean 2 D cy ad [.ref (ad 9), .int (iO a0)] μ res.1 res.2 := by
  refine zJ.of RX4 rfl (by decide) rfl (Nat.le_of_ble_eq_true rfl) ?_
  intro p e s m args below meth c A X hW ls hl
  have hl : lv_has ls 3 [(0, .ref (ad 9)), (1, .int (iO a0))] := hl
  unfold M4_mean at h
  refine z_iload_n (pc := 0) X.1 hl 1 rfl rfl dX4_mean_0 ?_
  refine z_iconst (pc := 1) X.1 dX4_mean_1 ?_
  obtain ⟨q1, eq1, h⟩ := z_bind h
  refine z_callSI (pc := 2) (n := 2) (As := [.int (iO a0), .int (iO 1)]) (rest := []) X hW hl (C4_other l N a0 1 μ eq1) gX4_mean_X4_other rfl (by decide +kernel) rfl (by decide) rfl (Nat.le_of_ble_eq_true rfl) dX4_mean_2 (fun H locs hW => ?_)
  refine z_istore_n (pc := 5) (i := 2) X.1 [(2, .int (iO q1)), (0, .ref (ad 9)), (1, .int (iO a0))] hl rfl rfl (by decide) rfl dX4_mean_5 (fun ls hl => ?_)
  refine z_iload_n (pc := 6) X.1 hl 0 rfl rfl dX4_mean_6 ?_
  obtain ⟨g2, h⟩ := z_guard h
  refine z_if_eq (pc := 7) (tgt := 21) X.1 dX4_mean_7 (by decide) g2 h (fun c9 h => ?_) (fun c9 h => ?_)
  · refine z_aload_n (pc := 21) X.1 hl 1 rfl rfl dX4_mean_21 ?_
    refine z_get7 (pc := 22) X.1 hW rfl iX4_mean_7 0 (by decide) rfl (by decide +kernel) dX4_mean_22 ?_
    obtain ⟨q3, eq3, h⟩ := z_bind h
    refine z_callV3I (pc := 25) (n := 0) (As := []) (rest := []) X hW hl rfl (C1_allHas l N 10 rfl μ eq3) gX4_mean_X1_allHas rfl (by decide +kernel) rfl (by decide) rfl (Nat.le_of_ble_eq_true rfl) dX4_mean_25 (fun H locs hW => ?_)
    obtain ⟨g4, h⟩ := z_guard h
    refine z_i2l (pc := 28) X.1 dX4_mean_28 g4 ?_
    refine z_aload_n (pc := 29) X.1 hl 1 rfl rfl dX4_mean_29 ?_
    refine z_get7 (pc := 30) X.1 hW rfl iX4_mean_7 0 (by decide) rfl (by decide +kernel) dX4_mean_30 ?_
    refine z_get3 (pc := 33) X.1 hW rfl iX4_mean_3 2 (by decide) rfl (by decide +kernel) dX4_mean_33 ?_
    obtain ⟨g5, h⟩ := z_guard h
    refine z_i2l (pc := 36) X.1 dX4_mean_36 g5 ?_
    refine z_iload_n (pc := 37) X.1 hl 2 rfl rfl dX4_mean_37 ?_
    obtain ⟨q6, eq6, h⟩ := z_bind h
    refine z_callSJ (pc := 38) (n := 3) (As := [.long (lO q3), .long (lO (μ 10 2)), .int (iO a0)]) (rest := []) X hW hl (C4_leastTerms l N q3 (μ 10 2) a0 μ eq6) gX4_mean_X4_leastTerms rfl (by decide +kernel) rfl (by decide) rfl (Nat.le_of_ble_eq_true rfl) dX4_mean_38 (fun H locs hW => ?_)
    exact z_lret (pc := 41) X hW (z_p1 h) (z_p2 h) dX4_mean_41
  · refine z_ldc2 (pc := 10) (n := 4000000000000000000) X.1 (by decide +kernel) dX4_mean_10 ?_
    refine z_aload_n (pc := 13) X.1 hl 1 rfl rfl dX4_mean_13 ?_
    refine z_iload_n (pc := 14) X.1 hl 0 rfl rfl dX4_mean_14 ?_
    obtain ⟨q7, eq7, h⟩ := z_bind h
    refine z_callV7I (pc := 15) (n := 1) (As := [.int (iO q1)]) (rest := [.long (lO 4000000000000000000)]) X hW hl rfl (C4_refused l N q1 μ eq7) gX4_mean_X4_refused rfl (by decide +kernel) rfl (by decide) rfl (Nat.le_of_ble_eq_true rfl) dX4_mean_15 (fun H locs hW => ?_)
    obtain ⟨g8, h⟩ := z_guard h
    refine z_i2l (pc := 18) X.1 dX4_mean_18 g8 ?_
    refine z_lsub (pc := 19) X.1 dX4_mean_19 ?_
    exact z_lret (pc := 20) X hW (z_p1 h) (z_p2 h) dX4_mean_20
-- X4_rowIsOfTrial
theorem iX4_rowIsOfTrial_5 : ∀ w ∈ wsX20, w ∈ wsX4_rowIsOfTrial := by decide +kernel
theorem iX4_rowIsOfTrial_7 : ∀ w ∈ wsX40, w ∈ wsX4_rowIsOfTrial := by decide +kernel
section
variable {p : Program} {l : Launch} {e : Env} {s : State} {m : MethodId} {args : Array Value} {below : List Frame} {meth : Method} {c : Code} {D : va_G} {cy : ClassId × ClassId} {ad : Nat → Nat} {A : Nat → Prop} {res : (Int × mm)}
theorem CJ4_rowIsOfTrial_31 (X : zX p s m args meth c cX4_rowIsOfTrial RX4 wsX4_rowIsOfTrial 2 D cy ad (some .boolean) A) (N : Nat) (rec2 : Int → mm → Option (Int × mm)) (hrec2 : ∀ (x1 : Int) (μ : mm), rec2 x1 μ = some res → ∀ (H : Heap) (locs : List Loc) (ls : Array Slot), zW D cy ad A s.heap μ H locs → lv_has ls 2 [(0, .ref (ad 9)), (1, .int (iO x1))] → W p l e (rmD 2) s m args below meth c H locs 0 0 (MQ below (zQi D cy ad A res.1 res.2) args s 0 0 A) (F0 m 2 ls [])) : ∀ (x1 : Int) (μ : mm), J4_rowIsOfTrial_31 N rec2 x1 μ = some res → ∀ (H : Heap) (locs : List Loc) (ls : Array Slot), zW D cy ad A s.heap μ H locs → lv_has ls 2 [(0, .ref (ad 9)), (1, .int (iO x1))] → W p l e (rmD 2) s m args below meth c H locs 0 0 (MQ below (zQi D cy ad A res.1 res.2) args s 0 0 A) (F0 m 31 ls []) := by
  intro x1 μ h H locs ls hW hl
  rw [J4_rowIsOfTrial_31] at h
  refine z_aload_n (pc := 31) X.1 hl 0 rfl rfl dX4_rowIsOfTrial_31 ?_
  refine z_get7 (pc := 32) X.1 hW rfl iX4_rowIsOfTrial_7 3 (by decide) rfl (by decide +kernel) dX4_rowIsOfTrial_32 ?_
  refine z_get5 (pc := 35) X.1 hW rfl iX4_rowIsOfTrial_5 2 (by decide) rfl (by decide +kernel) dX4_rowIsOfTrial_35 ?_
  refine z_aload_n (pc := 38) X.1 hl 0 rfl rfl dX4_rowIsOfTrial_38 ?_
  refine z_get7 (pc := 39) X.1 hW rfl iX4_rowIsOfTrial_7 5 (by decide) rfl (by decide +kernel) dX4_rowIsOfTrial_39 ?_
  refine z_iload_n (pc := 42) X.1 hl 1 rfl rfl dX4_rowIsOfTrial_42 ?_
  obtain ⟨g4, h⟩ := z_guard h
  refine z_iald (pc := 43) X.1 hW rfl ⟨g4.1, g4.2⟩ dX4_rowIsOfTrial_43 ?_
  obtain ⟨g5, h⟩ := z_guard h
  refine z_icmp_eq (pc := 44) (tgt := 49) X.1 dX4_rowIsOfTrial_44 (by decide) ⟨g5.1, g5.2⟩ h (fun c6 h => ?_) (fun c6 h => ?_)
  · refine z_iinc (pc := 49) (i := 1) X.1 [(1, .int (iO (x1 + 1))), (0, .ref (ad 9))] hl 1 rfl rfl (by decide) rfl dX4_rowIsOfTrial_49 (fun ls hl => ?_)
    refine z_goto (pc := 52) (tgt := 2) X.1 dX4_rowIsOfTrial_52 (by decide) ?_
    exact hrec2 (x1 + 1) μ h _ _ ls hW (lv_sub hl [1, 0] rfl)
  · refine z_iconst (pc := 47) X.1 dX4_rowIsOfTrial_47 ?_
    exact z_zret (pc := 48) X hW (by decide) (z_p1 h) (z_p2 h) dX4_rowIsOfTrial_48
theorem CL4_rowIsOfTrial_2 (X : zX p s m args meth c cX4_rowIsOfTrial RX4 wsX4_rowIsOfTrial 2 D cy ad (some .boolean) A) (N : Nat) : ∀ (k : Nat) (x1 : Int) (μ : mm), L4_rowIsOfTrial_2 N k x1 μ = some res → ∀ (H : Heap) (locs : List Loc) (ls : Array Slot), zW D cy ad A s.heap μ H locs → lv_has ls 2 [(0, .ref (ad 9)), (1, .int (iO x1))] → W p l e (rmD 2) s m args below meth c H locs 0 0 (MQ below (zQi D cy ad A res.1 res.2) args s 0 0 A) (F0 m 2 ls []) := by
  intro k
  induction k with
  | zero =>
    intro x1 μ h H locs ls hW hl
    exact absurd h (by rw [L4_rowIsOfTrial_2]; exact fun z => by cases z)
  | succ k ih =>
    intro x1 μ h H locs ls hW hl
    rw [L4_rowIsOfTrial_2] at h
    refine z_iload_n (pc := 2) X.1 hl 1 rfl rfl dX4_rowIsOfTrial_2 ?_
    refine z_aload_n (pc := 3) X.1 hl 0 rfl rfl dX4_rowIsOfTrial_3 ?_
    refine z_get7 (pc := 4) X.1 hW rfl iX4_rowIsOfTrial_7 9 (by decide) rfl (by decide +kernel) dX4_rowIsOfTrial_4 ?_
    obtain ⟨g1, h⟩ := z_guard h
    refine z_icmp_ge (pc := 7) (tgt := 55) X.1 dX4_rowIsOfTrial_7 (by decide) ⟨g1.1, g1.2⟩ h (fun c10 h => ?_) (fun c10 h => ?_)
    · refine z_iconst (pc := 55) X.1 dX4_rowIsOfTrial_55 ?_
      exact z_zret (pc := 56) X hW (by decide) (z_p1 h) (z_p2 h) dX4_rowIsOfTrial_56
    · refine z_iload_n (pc := 10) X.1 hl 1 rfl rfl dX4_rowIsOfTrial_10 ?_
      refine z_aload_n (pc := 11) X.1 hl 0 rfl rfl dX4_rowIsOfTrial_11 ?_
      refine z_get7 (pc := 12) X.1 hW rfl iX4_rowIsOfTrial_7 5 (by decide) rfl (by decide +kernel) dX4_rowIsOfTrial_12 ?_
      refine z_alen (pc := 15) (i := 46) X.1 hW rfl dX4_rowIsOfTrial_15 ?_
      obtain ⟨g2, h⟩ := z_guard h
      refine z_icmp_ge (pc := 16) (tgt := 55) X.1 dX4_rowIsOfTrial_16 (by decide) ⟨g2, (by decide)⟩ h (fun c9 h => ?_) (fun c9 h => ?_)
      · refine z_iconst (pc := 55) X.1 dX4_rowIsOfTrial_55 ?_
        exact z_zret (pc := 56) X hW (by decide) (z_p1 h) (z_p2 h) dX4_rowIsOfTrial_56
      · refine z_iload_n (pc := 19) X.1 hl 1 rfl rfl dX4_rowIsOfTrial_19 ?_
        obtain ⟨g3, h⟩ := z_guard h
        refine z_if_le (pc := 20) (tgt := 31) X.1 dX4_rowIsOfTrial_20 (by decide) g3 h (fun c8 h => ?_) (fun c8 h => ?_)
        · exact CJ4_rowIsOfTrial_31 X N (L4_rowIsOfTrial_2 N k) ih x1 μ h _ _ ls hW (lv_sub hl [0, 1] rfl)
        · refine z_aload_n (pc := 23) X.1 hl 0 rfl rfl dX4_rowIsOfTrial_23 ?_
          refine z_get7 (pc := 24) X.1 hW rfl iX4_rowIsOfTrial_7 3 (by decide) rfl (by decide +kernel) dX4_rowIsOfTrial_24 ?_
          obtain ⟨q7, eq7, h⟩ := z_bind h
          refine z_callV5I (pc := 27) (n := 0) (As := []) (rest := []) X hW hl rfl (C2_oneDay l N 43 rfl μ eq7) gX4_rowIsOfTrial_X2_oneDay rfl (by decide +kernel) rfl (by decide) rfl (Nat.le_of_ble_eq_true rfl) dX4_rowIsOfTrial_27 (fun H locs hW => ?_)
          refine z_pop (pc := 30) X.1 dX4_rowIsOfTrial_30 rfl ?_
          exact CJ4_rowIsOfTrial_31 X N (L4_rowIsOfTrial_2 N k) ih x1 q7.2 h _ _ ls hW (lv_sub hl [0, 1] rfl)
end
theorem C4_rowIsOfTrial (l : Launch) {D : va_G} {cy : ClassId × ClassId} {ad : Nat → Nat} (N : Nat)  (μ : mm) {res : (Int × mm)} (h : M4_rowIsOfTrial N μ = some res) : zI l yX4_rowIsOfTrial wsX4_rowIsOfTrial 2 D cy ad [.ref (ad 9)] μ res.1 res.2 := by
  refine zI.of RX4 rfl (by decide) rfl (Nat.le_of_ble_eq_true rfl) ?_
  intro p e s m args below meth c A X hW ls hl
  have hl : lv_has ls 2 [(0, .ref (ad 9))] := hl
  unfold M4_rowIsOfTrial at h
  refine z_iconst (pc := 0) X.1 dX4_rowIsOfTrial_0 ?_
  refine z_istore_n (pc := 1) (i := 1) X.1 [(1, .int (iO 0)), (0, .ref (ad 9))] hl rfl rfl (by decide) rfl dX4_rowIsOfTrial_1 (fun ls hl => ?_)
  exact CL4_rowIsOfTrial_2 X N N 0 μ h _ _ ls hW (lv_sub hl [1, 0] rfl)
