-- X5_two
section
variable {p : Program} {l : Launch} {e : Env} {s : State} {m : MethodId} {args : Array Value} {below : List Frame} {meth : Method} {c : Code} {D : va_G} {cy : ClassId × ClassId} {ad : Nat → Nat} {A : Nat → Prop} {res : (Int × mm)}
theorem CJ5_two_134 (X : zX p s m args meth c cX5_two RX5 wsX5_two 8 D cy ad (some .int) A) (N : Nat) (rec49 : Int → Int → Int → Int → mm → Option (Int × mm)) (hrec49 : ∀ (x1 : Int) (x2 : Int) (x3 : Int) (x5 : Int) (μ : mm), rec49 x1 x2 x3 x5 μ = some res → ∀ (H : Heap) (locs : List Loc) (ls : Array Slot), zW D cy ad A s.heap μ H locs → lv_has ls 8 [(0, .ref (ad 0)), (1, .int (iO x1)), (2, .int (iO x2)), (3, .int (iO x3)), (5, .int (iO x5))] → W p l e (rmD 7) s m args below meth c H locs 0 0 (MQ below (zQi D cy ad A res.1 res.2) args s 0 0 A) (F0 m 49 ls [])) : ∀ (x1 : Int) (x2 : Int) (x3 : Int) (x5 : Int) (μ : mm), J5_two_134 N rec49 x1 x2 x3 x5 μ = some res → ∀ (H : Heap) (locs : List Loc) (ls : Array Slot), zW D cy ad A s.heap μ H locs → lv_has ls 8 [(0, .ref (ad 0)), (1, .int (iO x1)), (2, .int (iO x2)), (3, .int (iO x3)), (5, .int (iO x5))] → W p l e (rmD 7) s m args below meth c H locs 0 0 (MQ below (zQi D cy ad A res.1 res.2) args s 0 0 A) (F0 m 134 ls []) := by
  intro x1 x2 x3 x5 μ h H locs ls hW hl
  rw [J5_two_134] at h
  refine z_iinc (pc := 134) (i := 5) X.1 [(5, .int (iO (x5 + 1))), (0, .ref (ad 0)), (1, .int (iO x1)), (2, .int (iO x2)), (3, .int (iO x3))] hl 4 rfl rfl (by decide) rfl dX5_two_134 (fun ls hl => ?_)
  refine z_goto (pc := 137) (tgt := 49) X.1 dX5_two_137 (by decide) ?_
  exact hrec49 x1 x2 x3 (x5 + 1) μ h _ _ ls hW (lv_sub hl [1, 2, 3, 4, 0] rfl)
theorem CL5_two_49 (X : zX p s m args meth c cX5_two RX5 wsX5_two 8 D cy ad (some .int) A) (N : Nat) : ∀ (k : Nat) (x1 : Int) (x2 : Int) (x3 : Int) (x5 : Int) (μ : mm), L5_two_49 N k x1 x2 x3 x5 μ = some res → ∀ (H : Heap) (locs : List Loc) (ls : Array Slot), zW D cy ad A s.heap μ H locs → lv_has ls 8 [(0, .ref (ad 0)), (1, .int (iO x1)), (2, .int (iO x2)), (3, .int (iO x3)), (5, .int (iO x5))] → W p l e (rmD 7) s m args below meth c H locs 0 0 (MQ below (zQi D cy ad A res.1 res.2) args s 0 0 A) (F0 m 49 ls []) := by
  intro k
  induction k with
  | zero =>
    intro x1 x2 x3 x5 μ h H locs ls hW hl
    exact absurd h (by rw [L5_two_49]; exact fun z => by cases z)
  | succ k ih =>
    intro x1 x2 x3 x5 μ h H locs ls hW hl
    rw [L5_two_49] at h
    refine z_iload (pc := 49) X.1 hl 4 rfl dX5_two_49 ?_
    refine z_iconst (pc := 51) X.1 dX5_two_51 ?_
    obtain ⟨g4, h⟩ := z_guard h
    refine z_icmp_ge (pc := 52) (tgt := 140) X.1 dX5_two_52 (by decide) ⟨g4, (by decide)⟩ h (fun c17 h => ?_) (fun c17 h => ?_)
    · refine z_bipush (pc := 140) X.1 dX5_two_140 (by decide) ?_
      exact z_iret (pc := 142) X hW (z_p1 h) (z_p2 h) dX5_two_142
    · refine z_iload (pc := 55) X.1 hl 4 rfl dX5_two_55 ?_
      refine z_iconst (pc := 57) X.1 dX5_two_57 ?_
      obtain ⟨g5, h⟩ := z_guard h
      refine z_idiv (pc := 58) X.1 dX5_two_58 ⟨g5.1, (by decide), g5.2, (by decide)⟩ ?_
      obtain ⟨w6, ew6, h⟩ := z_bnd h
      refine z_istore (pc := 59) (i := 6) X.1 [(6, .int (iO w6)), (0, .ref (ad 0)), (1, .int (iO x1)), (2, .int (iO x2)), (3, .int (iO x3)), (5, .int (iO x5))] hl ew6 (by decide) rfl dX5_two_59 (fun ls hl => ?_)
      refine z_iload (pc := 61) X.1 hl 5 rfl dX5_two_61 ?_
      refine z_iconst (pc := 63) X.1 dX5_two_63 ?_
      obtain ⟨g7, h⟩ := z_guard h
      refine z_irem (pc := 64) X.1 dX5_two_64 ⟨g7.1, (by decide), g7.2, (by decide)⟩ ?_
      obtain ⟨w8, ew8, h⟩ := z_bnd h
      refine z_istore (pc := 65) (i := 7) X.1 [(7, .int (iO w8)), (6, .int (iO w6)), (0, .ref (ad 0)), (1, .int (iO x1)), (2, .int (iO x2)), (3, .int (iO x3)), (5, .int (iO x5))] hl ew8 (by decide) rfl dX5_two_65 (fun ls hl => ?_)
      refine z_aload_n (pc := 67) X.1 hl 2 rfl rfl dX5_two_67 ?_
      refine z_iload_n (pc := 68) X.1 hl 3 rfl rfl dX5_two_68 ?_
      refine z_iload_n (pc := 69) X.1 hl 3 rfl rfl dX5_two_69 ?_
      refine z_iconst (pc := 70) X.1 dX5_two_70 ?_
      refine z_iload (pc := 71) X.1 hl 1 rfl dX5_two_71 ?_
      refine z_isub (pc := 73) X.1 dX5_two_73 ?_
      refine z_iload_n (pc := 74) X.1 hl 4 rfl rfl dX5_two_74 ?_
      refine z_iload (pc := 75) X.1 hl 0 rfl dX5_two_75 ?_
      refine z_iload_n (pc := 77) X.1 hl 5 rfl rfl dX5_two_77 ?_
      obtain ⟨q9, eq9, h⟩ := z_bind h
      refine z_callV1I (pc := 78) (n := 6) (As := [.int (iO x1), .int (iO x1), .int (iO (1 - w6)), .int (iO x2), .int (iO w8), .int (iO x3)]) (rest := []) X hW hl rfl (C5_ownBy l N x1 x1 (1 - w6) x2 w8 x3 μ eq9) gX5_two_X5_ownBy rfl (by decide +kernel) rfl (by decide) rfl (Nat.le_of_ble_eq_true rfl) dX5_two_78 (fun H locs hW => ?_)
      refine z_aload_n (pc := 81) X.1 hl 2 rfl rfl dX5_two_81 ?_
      refine z_iload_n (pc := 82) X.1 hl 3 rfl rfl dX5_two_82 ?_
      refine z_iload_n (pc := 83) X.1 hl 3 rfl rfl dX5_two_83 ?_
      refine z_iload (pc := 84) X.1 hl 1 rfl dX5_two_84 ?_
      refine z_iload_n (pc := 86) X.1 hl 4 rfl rfl dX5_two_86 ?_
      refine z_iload (pc := 87) X.1 hl 0 rfl dX5_two_87 ?_
      refine z_iload_n (pc := 89) X.1 hl 5 rfl rfl dX5_two_89 ?_
      obtain ⟨q10, eq10, h⟩ := z_bind h
      refine z_callV1I (pc := 90) (n := 6) (As := [.int (iO x1), .int (iO x1), .int (iO w6), .int (iO x2), .int (iO w8), .int (iO x3)]) (rest := [.int (iO q9.1)]) X hW hl rfl (C5_ownBy l N x1 x1 w6 x2 w8 x3 q9.2 eq10) gX5_two_X5_ownBy rfl (by decide +kernel) rfl (by decide) rfl (Nat.le_of_ble_eq_true rfl) dX5_two_90 (fun H locs hW => ?_)
      obtain ⟨g11, h⟩ := z_guard h
      refine z_icmp_gt (pc := 93) (tgt := 134) X.1 dX5_two_93 (by decide) ⟨g11.1, g11.2⟩ h (fun c16 h => ?_) (fun c16 h => ?_)
      · exact CJ5_two_134 X N (L5_two_49 N k) ih x1 x2 x3 x5 q10.2 h _ _ ls hW (lv_sub hl [2, 3, 4, 5, 6] rfl)
      · refine z_aload_n (pc := 96) X.1 hl 2 rfl rfl dX5_two_96 ?_
        refine z_iload_n (pc := 97) X.1 hl 4 rfl rfl dX5_two_97 ?_
        refine z_iload_n (pc := 98) X.1 hl 3 rfl rfl dX5_two_98 ?_
        refine z_iload (pc := 99) X.1 hl 1 rfl dX5_two_99 ?_
        refine z_iload_n (pc := 101) X.1 hl 4 rfl rfl dX5_two_101 ?_
        refine z_iconst (pc := 102) X.1 dX5_two_102 ?_
        refine z_iload (pc := 103) X.1 hl 0 rfl dX5_two_103 ?_
        refine z_isub (pc := 105) X.1 dX5_two_105 ?_
        refine z_iload_n (pc := 106) X.1 hl 5 rfl rfl dX5_two_106 ?_
        obtain ⟨q12, eq12, h⟩ := z_bind h
        refine z_callV1I (pc := 107) (n := 6) (As := [.int (iO x2), .int (iO x1), .int (iO w6), .int (iO x2), .int (iO (1 - w8)), .int (iO x3)]) (rest := []) X hW hl rfl (C5_ownBy l N x2 x1 w6 x2 (1 - w8) x3 q10.2 eq12) gX5_two_X5_ownBy rfl (by decide +kernel) rfl (by decide) rfl (Nat.le_of_ble_eq_true rfl) dX5_two_107 (fun H locs hW => ?_)
        refine z_aload_n (pc := 110) X.1 hl 2 rfl rfl dX5_two_110 ?_
        refine z_iload_n (pc := 111) X.1 hl 4 rfl rfl dX5_two_111 ?_
        refine z_iload_n (pc := 112) X.1 hl 3 rfl rfl dX5_two_112 ?_
        refine z_iload (pc := 113) X.1 hl 1 rfl dX5_two_113 ?_
        refine z_iload_n (pc := 115) X.1 hl 4 rfl rfl dX5_two_115 ?_
        refine z_iload (pc := 116) X.1 hl 0 rfl dX5_two_116 ?_
        refine z_iload_n (pc := 118) X.1 hl 5 rfl rfl dX5_two_118 ?_
        obtain ⟨q13, eq13, h⟩ := z_bind h
        refine z_callV1I (pc := 119) (n := 6) (As := [.int (iO x2), .int (iO x1), .int (iO w6), .int (iO x2), .int (iO w8), .int (iO x3)]) (rest := [.int (iO q12.1)]) X hW hl rfl (C5_ownBy l N x2 x1 w6 x2 w8 x3 q12.2 eq13) gX5_two_X5_ownBy rfl (by decide +kernel) rfl (by decide) rfl (Nat.le_of_ble_eq_true rfl) dX5_two_119 (fun H locs hW => ?_)
        obtain ⟨g14, h⟩ := z_guard h
        refine z_icmp_gt (pc := 122) (tgt := 134) X.1 dX5_two_122 (by decide) ⟨g14.1, g14.2⟩ h (fun c15 h => ?_) (fun c15 h => ?_)
        · exact CJ5_two_134 X N (L5_two_49 N k) ih x1 x2 x3 x5 q13.2 h _ _ ls hW (lv_sub hl [2, 3, 4, 5, 6] rfl)
        · refine z_bipush (pc := 125) X.1 dX5_two_125 (by decide) ?_
          refine z_iload (pc := 127) X.1 hl 1 rfl dX5_two_127 ?_
          refine z_imul (pc := 129) X.1 dX5_two_129 ?_
          refine z_iload (pc := 130) X.1 hl 0 rfl dX5_two_130 ?_
          refine z_iadd (pc := 132) X.1 dX5_two_132 ?_
          exact z_iret (pc := 133) X hW (z_p1 h) (z_p2 h) dX5_two_133
theorem CJ5_two_32 (X : zX p s m args meth c cX5_two RX5 wsX5_two 8 D cy ad (some .int) A) (N : Nat) : ∀ (x1 : Int) (x2 : Int) (x3 : Int) (y0 : Int) (μ : mm), J5_two_32 N x1 x2 x3 y0 μ = some res → ∀ (H : Heap) (locs : List Loc) (ls : Array Slot), zW D cy ad A s.heap μ H locs → lv_has ls 8 [(0, .ref (ad 0)), (1, .int (iO x1)), (2, .int (iO x2)), (3, .int (iO x3))] → W p l e (rmD 7) s m args below meth c H locs 0 0 (MQ below (zQi D cy ad A res.1 res.2) args s 0 0 A) (F0 m 32 ls [.int (iO y0)]) := by
  intro x1 x2 x3 y0 μ h H locs ls hW hl
  rw [J5_two_32] at h
  refine z_istore (pc := 32) (i := 4) X.1 [(4, .int (iO y0)), (0, .ref (ad 0)), (1, .int (iO x1)), (2, .int (iO x2)), (3, .int (iO x3))] hl rfl (by decide) rfl dX5_two_32 (fun ls hl => ?_)
  refine z_iload (pc := 34) X.1 hl 0 rfl dX5_two_34 ?_
  obtain ⟨g3, h⟩ := z_guard h
  refine z_if_eq (pc := 36) (tgt := 46) X.1 dX5_two_36 (by decide) g3 h (fun c19 h => ?_) (fun c19 h => ?_)
  · refine z_iconst (pc := 46) X.1 dX5_two_46 ?_
    refine z_istore (pc := 47) (i := 5) X.1 [(5, .int (iO 0)), (4, .int (iO y0)), (0, .ref (ad 0)), (1, .int (iO x1)), (2, .int (iO x2)), (3, .int (iO x3))] hl rfl (by decide) rfl dX5_two_47 (fun ls hl => ?_)
    exact CL5_two_49 X N N x1 x2 x3 0 μ h _ _ ls hW (lv_sub hl [2, 3, 4, 5, 0] rfl)
  · refine z_aload_n (pc := 39) X.1 hl 1 rfl rfl dX5_two_39 ?_
    refine z_iload (pc := 40) X.1 hl 0 rfl dX5_two_40 ?_
    obtain ⟨q18, eq18, h⟩ := z_bind h
    refine z_callV1I (pc := 42) (n := 1) (As := [.int (iO y0)]) (rest := []) X hW hl rfl (C5_no l N y0 μ eq18) gX5_two_X5_no rfl (by decide +kernel) rfl (by decide) rfl (Nat.le_of_ble_eq_true rfl) dX5_two_42 (fun H locs hW => ?_)
    exact z_iret (pc := 45) X hW (z_p1 h) (z_p2 h) dX5_two_45
theorem CJ5_two_31 (X : zX p s m args meth c cX5_two RX5 wsX5_two 8 D cy ad (some .int) A) (N : Nat) : ∀ (x1 : Int) (x2 : Int) (x3 : Int) (μ : mm), J5_two_31 N x1 x2 x3 μ = some res → ∀ (H : Heap) (locs : List Loc) (ls : Array Slot), zW D cy ad A s.heap μ H locs → lv_has ls 8 [(0, .ref (ad 0)), (1, .int (iO x1)), (2, .int (iO x2)), (3, .int (iO x3))] → W p l e (rmD 7) s m args below meth c H locs 0 0 (MQ below (zQi D cy ad A res.1 res.2) args s 0 0 A) (F0 m 31 ls []) := by
  intro x1 x2 x3 μ h H locs ls hW hl
  rw [J5_two_31] at h
  refine z_iconst (pc := 31) X.1 dX5_two_31 ?_
  exact CJ5_two_32 X N x1 x2 x3 (-1) μ h _ _ ls hW (lv_sub hl [0, 1, 2, 3] rfl)
end
theorem C5_two (l : Launch) {D : va_G} {cy : ClassId × ClassId} {ad : Nat → Nat} (N : Nat) (a0 : Int) (a1 : Int) (a2 : Int) (μ : mm) {res : (Int × mm)} (h : M5_two N a0 a1 a2 μ = some res) : zI l yX5_two wsX5_two 7 D cy ad [.ref (ad 0), .int (iO a0), .int (iO a1), .int (iO a2)] μ res.1 res.2 := by
  refine zI.of RX5 rfl (by decide) rfl (Nat.le_of_ble_eq_true rfl) ?_
  intro p e s m args below meth c A X hW ls hl
  have hl : lv_has ls 8 [(0, .ref (ad 0)), (1, .int (iO a0)), (2, .int (iO a1)), (3, .int (iO a2))] := hl
  unfold M5_two at h
  refine z_aload_n (pc := 0) X.1 hl 0 rfl rfl dX5_two_0 ?_
  refine z_iload_n (pc := 1) X.1 hl 1 rfl rfl dX5_two_1 ?_
  obtain ⟨q1, eq1, h⟩ := z_bind h
  refine z_callV1I (pc := 2) (n := 1) (As := [.int (iO a0)]) (rest := []) X hW hl rfl (C5_isOne l N a0 μ eq1) gX5_two_X5_isOne rfl (by decide +kernel) rfl (by decide) rfl (Nat.le_of_ble_eq_true rfl) dX5_two_2 (fun H locs hW => ?_)
  obtain ⟨g2, h⟩ := z_guard h
  refine z_if_eq (pc := 5) (tgt := 31) X.1 dX5_two_5 (by decide) g2 h (fun c26 h => ?_) (fun c26 h => ?_)
  · exact CJ5_two_31 X N a0 a1 a2 μ h _ _ ls hW (lv_sub hl [0, 1, 2, 3] rfl)
  · refine z_aload_n (pc := 8) X.1 hl 0 rfl rfl dX5_two_8 ?_
    refine z_iload_n (pc := 9) X.1 hl 2 rfl rfl dX5_two_9 ?_
    obtain ⟨q20, eq20, h⟩ := z_bind h
    refine z_callV1I (pc := 10) (n := 1) (As := [.int (iO a1)]) (rest := []) X hW hl rfl (C5_isOne l N a1 μ eq20) gX5_two_X5_isOne rfl (by decide +kernel) rfl (by decide) rfl (Nat.le_of_ble_eq_true rfl) dX5_two_10 (fun H locs hW => ?_)
    obtain ⟨g21, h⟩ := z_guard h
    refine z_if_eq (pc := 13) (tgt := 31) X.1 dX5_two_13 (by decide) g21 h (fun c25 h => ?_) (fun c25 h => ?_)
    · exact CJ5_two_31 X N a0 a1 a2 μ h _ _ ls hW (lv_sub hl [0, 1, 2, 3] rfl)
    · refine z_iload_n (pc := 16) X.1 hl 1 rfl rfl dX5_two_16 ?_
      refine z_iload_n (pc := 17) X.1 hl 2 rfl rfl dX5_two_17 ?_
      obtain ⟨g22, h⟩ := z_guard h
      refine z_icmp_eq (pc := 18) (tgt := 31) X.1 dX5_two_18 (by decide) ⟨g22.1, g22.2⟩ h (fun c24 h => ?_) (fun c24 h => ?_)
      · exact CJ5_two_31 X N a0 a1 a2 μ h _ _ ls hW (lv_sub hl [0, 1, 2, 3] rfl)
      · refine z_iload_n (pc := 21) X.1 hl 3 rfl rfl dX5_two_21 ?_
        refine z_iconst (pc := 22) X.1 dX5_two_22 ?_
        refine z_bipush (pc := 23) X.1 dX5_two_23 (by decide) ?_
        obtain ⟨q23, eq23, h⟩ := z_bind h
        refine z_callSI (pc := 25) (n := 3) (As := [.int (iO a2), .int (iO 1), .int (iO 30)]) (rest := []) X hW hl (C5_wrongBy l N a2 1 30 μ eq23) gX5_two_X5_wrongBy rfl (by decide +kernel) rfl (by decide) rfl (Nat.le_of_ble_eq_true rfl) dX5_two_25 (fun H locs hW => ?_)
        refine z_goto (pc := 28) (tgt := 32) X.1 dX5_two_28 (by decide) ?_
        exact CJ5_two_32 X N a0 a1 a2 q23 μ h _ _ ls hW (lv_sub hl [0, 1, 2, 3] rfl)
-- X5_gcd
section
variable {p : Program} {l : Launch} {e : Env} {s : State} {m : MethodId} {args : Array Value} {below : List Frame} {meth : Method} {c : Code} {D : va_G} {cy : ClassId × ClassId} {ad : Nat → Nat} {A : Nat → Prop} {res : Int} {μ0 : mm}
theorem CL5_gcd_6 (X : zX p s m args meth c cX5_gcd RX5 wsX5_gcd 10 D cy ad (some .long) A) (N : Nat) : ∀ (k : Nat) (x4 : Int) (x6 : Int) (μ : mm) (_ : μ = μ0), L5_gcd_6 N k x4 x6 μ = some res → ∀ (H : Heap) (locs : List Loc) (ls : Array Slot), zW D cy ad A s.heap μ H locs → lv_has ls 10 [(4, .long (lO x4)), (6, .long (lO x6))] → W p l e (rmD 0) s m args below meth c H locs 0 0 (MQ below (zQl D cy ad A res μ0) args s 0 0 A) (F0 m 6 ls []) := by
  intro k
  induction k with
  | zero =>
    intro x4 x6 μ em h H locs ls hW hl
    exact absurd h (by rw [L5_gcd_6]; exact fun z => by cases z)
  | succ k ih =>
    intro x4 x6 μ em h H locs ls hW hl
    rw [L5_gcd_6] at h
    refine z_lload (pc := 6) X.1 hl 1 rfl dX5_gcd_6 ?_
    refine z_lconst0 (pc := 8) X.1 dX5_gcd_8 ?_
    obtain ⟨g1, h⟩ := z_guard h
    refine z_lcmp (pc := 9) X.1 dX5_gcd_9 ⟨g1, (by decide)⟩ ?_
    obtain ⟨g2, h⟩ := z_guard h
    refine z_if_eq (pc := 10) (tgt := 31) X.1 dX5_gcd_10 (by decide) g2 h (fun c5 h => ?_) (fun c5 h => ?_)
    · refine z_lload (pc := 31) X.1 hl 0 rfl dX5_gcd_31 ?_
      exact z_lret (pc := 33) X hW (Option.some.inj h) em dX5_gcd_33
    · refine z_lload (pc := 13) X.1 hl 0 rfl dX5_gcd_13 ?_
      refine z_lload (pc := 15) X.1 hl 1 rfl dX5_gcd_15 ?_
      obtain ⟨g3, h⟩ := z_guard h
      refine z_lrem (pc := 17) X.1 dX5_gcd_17 ⟨g3.1, g3.2.1, g3.2.2.1, g3.2.2.2⟩ ?_
      obtain ⟨w4, ew4, h⟩ := z_bnd h
      refine z_lstore (pc := 18) (i := 8) X.1 [(8, .long (lO w4)), (4, .long (lO x4)), (6, .long (lO x6))] hl ew4 (by decide) rfl dX5_gcd_18 (fun ls hl => ?_)
      refine z_lload (pc := 20) X.1 hl 2 rfl dX5_gcd_20 ?_
      refine z_lstore (pc := 22) (i := 4) X.1 [(4, .long (lO x6)), (8, .long (lO w4)), (6, .long (lO x6))] hl rfl (by decide) rfl dX5_gcd_22 (fun ls hl => ?_)
      refine z_lload (pc := 24) X.1 hl 1 rfl dX5_gcd_24 ?_
      refine z_lstore (pc := 26) (i := 6) X.1 [(6, .long (lO w4)), (4, .long (lO x6)), (8, .long (lO w4))] hl rfl (by decide) rfl dX5_gcd_26 (fun ls hl => ?_)
      refine z_goto (pc := 28) (tgt := 6) X.1 dX5_gcd_28 (by decide) ?_
      exact ih x6 w4 μ em h _ _ ls hW (lv_sub hl [1, 0] rfl)
end
theorem C5_gcd (l : Launch) {D : va_G} {cy : ClassId × ClassId} {ad : Nat → Nat} (N : Nat) (a0 : Int) (a1 : Int) (μ0 : mm) {res : Int} (h : M5_gcd N a0 a1 μ0 = some res) : zJ l yX5_gcd wsX5_gcd 0 D cy ad [.long (lO a0), .long (lO a1)] μ0 res μ0 := by
  refine zJ.of RX5 rfl (by decide) rfl (Nat.le_of_ble_eq_true rfl) ?_
  intro p e s m args below meth c A X hW ls hl
  have hl : lv_has ls 10 [(0, .long (lO a0)), (2, .long (lO a1))] := hl
  unfold M5_gcd at h
  refine z_lload_n (pc := 0) X.1 hl 0 rfl rfl dX5_gcd_0 ?_
  refine z_lstore (pc := 1) (i := 4) X.1 [(4, .long (lO a0)), (0, .long (lO a0)), (2, .long (lO a1))] hl rfl (by decide) rfl dX5_gcd_1 (fun ls hl => ?_)
  refine z_lload_n (pc := 3) X.1 hl 2 rfl rfl dX5_gcd_3 ?_
  refine z_lstore (pc := 4) (i := 6) X.1 [(6, .long (lO a1)), (4, .long (lO a0)), (0, .long (lO a0)), (2, .long (lO a1))] hl rfl (by decide) rfl dX5_gcd_4 (fun ls hl => ?_)
  exact CL5_gcd_6 X N N a0 a1 μ0 rfl h _ _ ls hW (lv_sub hl [1, 0] rfl)
-- X5_partOf
section
variable {p : Program} {l : Launch} {e : Env} {s : State} {m : MethodId} {args : Array Value} {below : List Frame} {meth : Method} {c : Code} {D : va_G} {cy : ClassId × ClassId} {ad : Nat → Nat} {A : Nat → Prop} {res : Int} {μ0 : mm}
theorem CJ5_partOf_20 (X : zX p s m args meth c cX5_partOf RX5 wsX5_partOf 5 D cy ad (some .long) A) (N : Nat) : ∀ (x0 : Int) (x2 : Int) (y0 : Int) (μ : mm) (_ : μ = μ0), J5_partOf_20 N x0 x2 y0 μ = some res → ∀ (H : Heap) (locs : List Loc) (ls : Array Slot), zW D cy ad A s.heap μ H locs → lv_has ls 5 [(0, .long (lO x0)), (2, .long (lO x2))] → W p l e (rmD 1) s m args below meth c H locs 0 0 (MQ below (zQl D cy ad A res μ0) args s 0 0 A) (F0 m 20 ls [.long (lO y0)]) := by
  intro x0 x2 y0 μ em h H locs ls hW hl
  rw [J5_partOf_20] at h
  refine z_lload_n (pc := 20) X.1 hl 0 rfl rfl dX5_partOf_20 ?_
  refine z_lload_n (pc := 21) X.1 hl 1 rfl rfl dX5_partOf_21 ?_
  obtain ⟨q4, eq4, h⟩ := z_bind h
  refine z_callSJ (pc := 22) (n := 2) (As := [.long (lO x0), .long (lO x2)]) (rest := [.long (lO y0)]) X hW hl (C5_gcd l N x0 x2 μ eq4) gX5_partOf_X5_gcd rfl (by decide +kernel) rfl (by decide) rfl (Nat.le_of_ble_eq_true rfl) dX5_partOf_22 (fun H locs hW => ?_)
  obtain ⟨g5, h⟩ := z_guard h
  refine z_ldiv (pc := 25) X.1 dX5_partOf_25 ⟨g5.1, g5.2.1, g5.2.2.1, g5.2.2.2⟩ ?_
  exact z_lret (pc := 26) X hW (Option.some.inj h) em dX5_partOf_26
end
theorem C5_partOf (l : Launch) {D : va_G} {cy : ClassId × ClassId} {ad : Nat → Nat} (N : Nat) (a0 : Int) (a1 : Int) (a2 : Int) (μ0 : mm) {res : Int} (h : M5_partOf N a0 a1 a2 μ0 = some res) : zJ l yX5_partOf wsX5_partOf 1 D cy ad [.long (lO a0), .long (lO a1), .int (iO a2)] μ0 res μ0 := by
  refine zJ.of RX5 rfl (by decide) rfl (Nat.le_of_ble_eq_true rfl) ?_
  intro p e s m args below meth c A X hW ls hl
  have hl : lv_has ls 5 [(0, .long (lO a0)), (2, .long (lO a1)), (4, .int (iO a2))] := hl
  unfold M5_partOf at h
  refine z_lload_n (pc := 0) X.1 hl 0 rfl rfl dX5_partOf_0 ?_
  refine z_lconst0 (pc := 1) X.1 dX5_partOf_1 ?_
  obtain ⟨g1, h⟩ := z_guard h
  refine z_lcmp (pc := 2) X.1 dX5_partOf_2 ⟨g1, (by decide)⟩ ?_
  obtain ⟨g2, h⟩ := z_guard h
  refine z_if_ne (pc := 3) (tgt := 10) X.1 dX5_partOf_3 (by decide) g2 h (fun c8 h => ?_) (fun c8 h => ?_)
  · refine z_iload (pc := 10) X.1 hl 2 rfl dX5_partOf_10 ?_
    obtain ⟨g3, h⟩ := z_guard h
    refine z_if_ne (pc := 12) (tgt := 19) X.1 dX5_partOf_12 (by decide) g3 h (fun c6 h => ?_) (fun c6 h => ?_)
    · refine z_lload_n (pc := 19) X.1 hl 1 rfl rfl dX5_partOf_19 ?_
      exact CJ5_partOf_20 X N a0 a1 a1 μ0 rfl h _ _ ls hW (lv_sub hl [0, 1] rfl)
    · refine z_lload_n (pc := 15) X.1 hl 0 rfl rfl dX5_partOf_15 ?_
      refine z_goto (pc := 16) (tgt := 20) X.1 dX5_partOf_16 (by decide) ?_
      exact CJ5_partOf_20 X N a0 a1 a0 μ0 rfl h _ _ ls hW (lv_sub hl [0, 1] rfl)
  · refine z_iload (pc := 6) X.1 hl 2 rfl dX5_partOf_6 ?_
    obtain ⟨g7, h⟩ := z_guard h
    refine z_i2l (pc := 8) X.1 dX5_partOf_8 g7 ?_
    exact z_lret (pc := 9) X hW (Option.some.inj h) rfl dX5_partOf_9
-- X5_slip
theorem iX5_slip_1 : ∀ w ∈ wsX50, w ∈ wsX5_slip := by decide +kernel
section
variable {p : Program} {l : Launch} {e : Env} {s : State} {m : MethodId} {args : Array Value} {below : List Frame} {meth : Method} {c : Code} {D : va_G} {cy : ClassId × ClassId} {ad : Nat → Nat} {A : Nat → Prop} {res : (Int × mm)}
theorem CJ5_slip_28 (X : zX p s m args meth c cX5_slip RX5 wsX5_slip 14 D cy ad (some .long) A) (N : Nat) : ∀ (μ : mm), J5_slip_28 N μ = some res → ∀ (H : Heap) (locs : List Loc) (ls : Array Slot), zW D cy ad A s.heap μ H locs → lv_has ls 14 [(0, .ref (ad 0))] → W p l e (rmD 5) s m args below meth c H locs 0 0 (MQ below (zQl D cy ad A res.1 res.2) args s 0 0 A) (F0 m 28 ls []) := by
  intro μ h H locs ls hW hl
  rw [J5_slip_28] at h
  refine z_aload_n (pc := 28) X.1 hl 0 rfl rfl dX5_slip_28 ?_
  refine z_bipush (pc := 29) X.1 dX5_slip_29 (by decide) ?_
  obtain ⟨q4, eq4, h⟩ := z_bind h
  refine z_callV1J (pc := 31) (n := 1) (As := [.int (iO (-4))]) (rest := []) X hW hl rfl (C5_noWide l N (-4) μ eq4) gX5_slip_X5_noWide rfl (by decide +kernel) rfl (by decide) rfl (Nat.le_of_ble_eq_true rfl) dX5_slip_31 (fun H locs hW => ?_)
  exact z_lret (pc := 34) X hW (z_p1 h) (z_p2 h) dX5_slip_34
theorem CJ5_slip_54 (X : zX p s m args meth c cX5_slip RX5 wsX5_slip 14 D cy ad (some .long) A) (N : Nat) : ∀ (μ : mm), J5_slip_54 N μ = some res → ∀ (H : Heap) (locs : List Loc) (ls : Array Slot), zW D cy ad A s.heap μ H locs → lv_has ls 14 [(0, .ref (ad 0))] → W p l e (rmD 5) s m args below meth c H locs 0 0 (MQ below (zQl D cy ad A res.1 res.2) args s 0 0 A) (F0 m 54 ls []) := by
  intro μ h H locs ls hW hl
  rw [J5_slip_54] at h
  refine z_aload_n (pc := 54) X.1 hl 0 rfl rfl dX5_slip_54 ?_
  refine z_bipush (pc := 55) X.1 dX5_slip_55 (by decide) ?_
  obtain ⟨q8, eq8, h⟩ := z_bind h
  refine z_callV1J (pc := 57) (n := 1) (As := [.int (iO (-6))]) (rest := []) X hW hl rfl (C5_noWide l N (-6) μ eq8) gX5_slip_X5_noWide rfl (by decide +kernel) rfl (by decide) rfl (Nat.le_of_ble_eq_true rfl) dX5_slip_57 (fun H locs hW => ?_)
  exact z_lret (pc := 60) X hW (z_p1 h) (z_p2 h) dX5_slip_60
theorem CJ5_slip_235 (X : zX p s m args meth c cX5_slip RX5 wsX5_slip 14 D cy ad (some .long) A) (N : Nat) (rec109 : Int → Int → Int → Int → Int → Int → Int → Int → mm → Option (Int × mm)) (hrec109 : ∀ (x1 : Int) (x2 : Int) (x3 : Int) (x4 : Int) (x5 : Int) (x6 : Int) (x8 : Int) (x10 : Int) (μ : mm), rec109 x1 x2 x3 x4 x5 x6 x8 x10 μ = some res → ∀ (H : Heap) (locs : List Loc) (ls : Array Slot), zW D cy ad A s.heap μ H locs → lv_has ls 14 [(0, .ref (ad 0)), (1, .int (iO x1)), (2, .int (iO x2)), (3, .int (iO x3)), (4, .int (iO x4)), (5, .int (iO x5)), (6, .long (lO x6)), (8, .long (lO x8)), (10, .int (iO x10))] → W p l e (rmD 5) s m args below meth c H locs 0 0 (MQ below (zQl D cy ad A res.1 res.2) args s 0 0 A) (F0 m 109 ls [])) : ∀ (x1 : Int) (x2 : Int) (x3 : Int) (x4 : Int) (x5 : Int) (x8 : Int) (x10 : Int) (y0 : Int) (y1 : Int) (μ : mm), J5_slip_235 N rec109 x1 x2 x3 x4 x5 x8 x10 y0 y1 μ = some res → ∀ (H : Heap) (locs : List Loc) (ls : Array Slot), zW D cy ad A s.heap μ H locs → lv_has ls 14 [(0, .ref (ad 0)), (1, .int (iO x1)), (2, .int (iO x2)), (3, .int (iO x3)), (4, .int (iO x4)), (5, .int (iO x5)), (8, .long (lO x8)), (10, .int (iO x10))] → W p l e (rmD 5) s m args below meth c H locs 0 0 (MQ below (zQl D cy ad A res.1 res.2) args s 0 0 A) (F0 m 235 ls [.long (lO y0), .long (lO y1)]) := by
  intro x1 x2 x3 x4 x5 x8 x10 y0 y1 μ h H locs ls hW hl
  rw [J5_slip_235] at h
  refine z_ladd (pc := 235) X.1 dX5_slip_235 ?_
  obtain ⟨w21, ew21, h⟩ := z_bnd h
  refine z_lstore (pc := 236) (i := 6) X.1 [(6, .long (lO w21)), (0, .ref (ad 0)), (1, .int (iO x1)), (2, .int (iO x2)), (3, .int (iO x3)), (4, .int (iO x4)), (5, .int (iO x5)), (8, .long (lO x8)), (10, .int (iO x10))] hl ew21 (by decide) rfl dX5_slip_236 (fun ls hl => ?_)
  refine z_iinc (pc := 238) (i := 10) X.1 [(10, .int (iO (x10 + 1))), (6, .long (lO w21)), (0, .ref (ad 0)), (1, .int (iO x1)), (2, .int (iO x2)), (3, .int (iO x3)), (4, .int (iO x4)), (5, .int (iO x5)), (8, .long (lO x8))] hl 8 rfl rfl (by decide) rfl dX5_slip_238 (fun ls hl => ?_)
  refine z_goto (pc := 241) (tgt := 109) X.1 dX5_slip_241 (by decide) ?_
  exact hrec109 x1 x2 x3 x4 x5 w21 x8 (x10 + 1) μ h _ _ ls hW (lv_sub hl [2, 3, 4, 5, 6, 7, 1, 8, 0] rfl)
theorem CJ5_slip_200 (X : zX p s m args meth c cX5_slip RX5 wsX5_slip 14 D cy ad (some .long) A) (N : Nat) (rec109 : Int → Int → Int → Int → Int → Int → Int → Int → mm → Option (Int × mm)) (rec134 : Int → Int → Int → Int → Int → Int → Int → Int → Int → Int → mm → Option (Int × mm)) (hrec109 : ∀ (x1 : Int) (x2 : Int) (x3 : Int) (x4 : Int) (x5 : Int) (x6 : Int) (x8 : Int) (x10 : Int) (μ : mm), rec109 x1 x2 x3 x4 x5 x6 x8 x10 μ = some res → ∀ (H : Heap) (locs : List Loc) (ls : Array Slot), zW D cy ad A s.heap μ H locs → lv_has ls 14 [(0, .ref (ad 0)), (1, .int (iO x1)), (2, .int (iO x2)), (3, .int (iO x3)), (4, .int (iO x4)), (5, .int (iO x5)), (6, .long (lO x6)), (8, .long (lO x8)), (10, .int (iO x10))] → W p l e (rmD 5) s m args below meth c H locs 0 0 (MQ below (zQl D cy ad A res.1 res.2) args s 0 0 A) (F0 m 109 ls [])) (hrec134 : ∀ (x1 : Int) (x2 : Int) (x3 : Int) (x4 : Int) (x5 : Int) (x6 : Int) (x8 : Int) (x10 : Int) (x11 : Int) (x13 : Int) (μ : mm), rec134 x1 x2 x3 x4 x5 x6 x8 x10 x11 x13 μ = some res → ∀ (H : Heap) (locs : List Loc) (ls : Array Slot), zW D cy ad A s.heap μ H locs → lv_has ls 14 [(0, .ref (ad 0)), (1, .int (iO x1)), (2, .int (iO x2)), (3, .int (iO x3)), (4, .int (iO x4)), (5, .int (iO x5)), (6, .long (lO x6)), (8, .long (lO x8)), (10, .int (iO x10)), (11, .long (lO x11)), (13, .int (iO x13))] → W p l e (rmD 5) s m args below meth c H locs 0 0 (MQ below (zQl D cy ad A res.1 res.2) args s 0 0 A) (F0 m 134 ls [])) : ∀ (x1 : Int) (x2 : Int) (x3 : Int) (x4 : Int) (x5 : Int) (x6 : Int) (x8 : Int) (x10 : Int) (x11 : Int) (x13 : Int) (μ : mm), J5_slip_200 N rec109 rec134 x1 x2 x3 x4 x5 x6 x8 x10 x11 x13 μ = some res → ∀ (H : Heap) (locs : List Loc) (ls : Array Slot), zW D cy ad A s.heap μ H locs → lv_has ls 14 [(0, .ref (ad 0)), (1, .int (iO x1)), (2, .int (iO x2)), (3, .int (iO x3)), (4, .int (iO x4)), (5, .int (iO x5)), (6, .long (lO x6)), (8, .long (lO x8)), (10, .int (iO x10)), (11, .long (lO x11)), (13, .int (iO x13))] → W p l e (rmD 5) s m args below meth c H locs 0 0 (MQ below (zQl D cy ad A res.1 res.2) args s 0 0 A) (F0 m 200 ls []) := by
  intro x1 x2 x3 x4 x5 x6 x8 x10 x11 x13 μ h H locs ls hW hl
  rw [J5_slip_200] at h
  refine z_aload_n (pc := 200) X.1 hl 0 rfl rfl dX5_slip_200 ?_
  refine z_get1 (pc := 201) X.1 hW rfl iX5_slip_1 1 (by decide) rfl (by decide +kernel) dX5_slip_201 ?_
  obtain ⟨q29, eq29, h⟩ := z_bind h
  refine z_callSV (pc := 204) (n := 1) (As := [.ref (ad 2)]) (rest := []) X hW hl (C5_day l N 2 (by decide) μ eq29) gX5_slip_X5_day rfl (by decide +kernel) rfl (by decide) rfl (Nat.le_of_ble_eq_true rfl) dX5_slip_204 (fun H locs hW => ?_)
  refine z_iinc (pc := 207) (i := 13) X.1 [(13, .int (iO (x13 + 1))), (0, .ref (ad 0)), (1, .int (iO x1)), (2, .int (iO x2)), (3, .int (iO x3)), (4, .int (iO x4)), (5, .int (iO x5)), (6, .long (lO x6)), (8, .long (lO x8)), (10, .int (iO x10)), (11, .long (lO x11))] hl 10 rfl rfl (by decide) rfl dX5_slip_207 (fun ls hl => ?_)
  refine z_goto (pc := 210) (tgt := 134) X.1 dX5_slip_210 (by decide) ?_
  exact hrec134 x1 x2 x3 x4 x5 x6 x8 x10 x11 (x13 + 1) q29 h _ _ ls hW (lv_sub hl [1, 2, 3, 4, 5, 6, 7, 8, 9, 10, 0] rfl)
theorem CJ5_slip_160 (X : zX p s m args meth c cX5_slip RX5 wsX5_slip 14 D cy ad (some .long) A) (N : Nat) (rec109 : Int → Int → Int → Int → Int → Int → Int → Int → mm → Option (Int × mm)) (rec134 : Int → Int → Int → Int → Int → Int → Int → Int → Int → Int → mm → Option (Int × mm)) (hrec109 : ∀ (x1 : Int) (x2 : Int) (x3 : Int) (x4 : Int) (x5 : Int) (x6 : Int) (x8 : Int) (x10 : Int) (μ : mm), rec109 x1 x2 x3 x4 x5 x6 x8 x10 μ = some res → ∀ (H : Heap) (locs : List Loc) (ls : Array Slot), zW D cy ad A s.heap μ H locs → lv_has ls 14 [(0, .ref (ad 0)), (1, .int (iO x1)), (2, .int (iO x2)), (3, .int (iO x3)), (4, .int (iO x4)), (5, .int (iO x5)), (6, .long (lO x6)), (8, .long (lO x8)), (10, .int (iO x10))] → W p l e (rmD 5) s m args below meth c H locs 0 0 (MQ below (zQl D cy ad A res.1 res.2) args s 0 0 A) (F0 m 109 ls [])) (hrec134 : ∀ (x1 : Int) (x2 : Int) (x3 : Int) (x4 : Int) (x5 : Int) (x6 : Int) (x8 : Int) (x10 : Int) (x11 : Int) (x13 : Int) (μ : mm), rec134 x1 x2 x3 x4 x5 x6 x8 x10 x11 x13 μ = some res → ∀ (H : Heap) (locs : List Loc) (ls : Array Slot), zW D cy ad A s.heap μ H locs → lv_has ls 14 [(0, .ref (ad 0)), (1, .int (iO x1)), (2, .int (iO x2)), (3, .int (iO x3)), (4, .int (iO x4)), (5, .int (iO x5)), (6, .long (lO x6)), (8, .long (lO x8)), (10, .int (iO x10)), (11, .long (lO x11)), (13, .int (iO x13))] → W p l e (rmD 5) s m args below meth c H locs 0 0 (MQ below (zQl D cy ad A res.1 res.2) args s 0 0 A) (F0 m 134 ls [])) : ∀ (x1 : Int) (x2 : Int) (x3 : Int) (x4 : Int) (x5 : Int) (x6 : Int) (x8 : Int) (x10 : Int) (x13 : Int) (y0 : Int) (y1 : Int) (μ : mm), J5_slip_160 N rec109 rec134 x1 x2 x3 x4 x5 x6 x8 x10 x13 y0 y1 μ = some res → ∀ (H : Heap) (locs : List Loc) (ls : Array Slot), zW D cy ad A s.heap μ H locs → lv_has ls 14 [(0, .ref (ad 0)), (1, .int (iO x1)), (2, .int (iO x2)), (3, .int (iO x3)), (4, .int (iO x4)), (5, .int (iO x5)), (6, .long (lO x6)), (8, .long (lO x8)), (10, .int (iO x10)), (13, .int (iO x13))] → W p l e (rmD 5) s m args below meth c H locs 0 0 (MQ below (zQl D cy ad A res.1 res.2) args s 0 0 A) (F0 m 160 ls [.long (lO y0), .long (lO y1)]) := by
  intro x1 x2 x3 x4 x5 x6 x8 x10 x13 y0 y1 μ h H locs ls hW hl
  rw [J5_slip_160] at h
  refine z_lmul (pc := 160) X.1 dX5_slip_160 ?_
  obtain ⟨w26, ew26, h⟩ := z_bnd h
  refine z_lstore (pc := 161) (i := 11) X.1 [(11, .long (lO w26)), (0, .ref (ad 0)), (1, .int (iO x1)), (2, .int (iO x2)), (3, .int (iO x3)), (4, .int (iO x4)), (5, .int (iO x5)), (6, .long (lO x6)), (8, .long (lO x8)), (10, .int (iO x10)), (13, .int (iO x13))] hl ew26 (by decide) rfl dX5_slip_161 (fun ls hl => ?_)
  refine z_iload (pc := 163) X.1 hl 9 rfl dX5_slip_163 ?_
  refine z_iload (pc := 165) X.1 hl 10 rfl dX5_slip_165 ?_
  obtain ⟨q27, eq27, h⟩ := z_bind h
  refine z_callSI (pc := 167) (n := 2) (As := [.int (iO x10), .int (iO x13)]) (rest := []) X hW hl (C5_has l N x10 x13 μ eq27) gX5_slip_X5_has rfl (by decide +kernel) rfl (by decide) rfl (Nat.le_of_ble_eq_true rfl) dX5_slip_167 (fun H locs hW => ?_)
  obtain ⟨g28, h⟩ := z_guard h
  refine z_if_eq (pc := 170) (tgt := 200) X.1 dX5_slip_170 (by decide) g28 h (fun c36 h => ?_) (fun c36 h => ?_)
  · exact CJ5_slip_200 X N rec109 rec134 hrec109 hrec134 x1 x2 x3 x4 x5 x6 x8 x10 w26 x13 μ h _ _ ls hW (lv_sub hl [1, 2, 3, 4, 5, 6, 7, 8, 9, 0, 10] rfl)
  · refine z_aload_n (pc := 173) X.1 hl 1 rfl rfl dX5_slip_173 ?_
    refine z_get1 (pc := 174) X.1 hW rfl iX5_slip_1 1 (by decide) rfl (by decide +kernel) dX5_slip_174 ?_
    refine z_iload_n (pc := 177) X.1 hl 2 rfl rfl dX5_slip_177 ?_
    refine z_iconst (pc := 178) X.1 dX5_slip_178 ?_
    refine z_callSI (pc := 179) (n := 2) (As := [.int (iO x1), .int (iO 2)]) (rest := [.ref (ad 2)]) X hW hl (C5_of l N x1 2 μ) gX5_slip_X5_of rfl (by decide +kernel) rfl (by decide) rfl (Nat.le_of_ble_eq_true rfl) dX5_slip_179 (fun H locs hW => ?_)
    obtain ⟨g30, h⟩ := z_guard h
    refine z_iald (pc := 182) X.1 hW rfl ⟨g30.1, g30.2⟩ dX5_slip_182 ?_
    obtain ⟨g31, h⟩ := z_guard h
    refine z_if_le (pc := 183) (tgt := 200) X.1 dX5_slip_183 (by decide) g31 h (fun c35 h => ?_) (fun c35 h => ?_)
    · exact CJ5_slip_200 X N rec109 rec134 hrec109 hrec134 x1 x2 x3 x4 x5 x6 x8 x10 w26 x13 μ h _ _ ls hW (lv_sub hl [1, 2, 3, 4, 5, 6, 7, 8, 9, 0, 10] rfl)
    · refine z_aload_n (pc := 186) X.1 hl 1 rfl rfl dX5_slip_186 ?_
      refine z_get1 (pc := 187) X.1 hW rfl iX5_slip_1 1 (by decide) rfl (by decide +kernel) dX5_slip_187 ?_
      refine z_iload_n (pc := 190) X.1 hl 2 rfl rfl dX5_slip_190 ?_
      refine z_iconst (pc := 191) X.1 dX5_slip_191 ?_
      refine z_callSI (pc := 192) (n := 2) (As := [.int (iO x1), .int (iO 2)]) (rest := [.ref (ad 2)]) X hW hl (C5_of l N x1 2 μ) gX5_slip_X5_of rfl (by decide +kernel) rfl (by decide) rfl (Nat.le_of_ble_eq_true rfl) dX5_slip_192 (fun H locs hW => ?_)
      refine z_dup2 (pc := 195) X.1 dX5_slip_195 rfl rfl ?_
      obtain ⟨g32, h⟩ := z_guard h
      refine z_iald (pc := 196) X.1 hW rfl ⟨g32.1, g32.2⟩ dX5_slip_196 ?_
      refine z_iconst (pc := 197) X.1 dX5_slip_197 ?_
      refine z_isub (pc := 198) X.1 dX5_slip_198 ?_
      obtain ⟨g33, h⟩ := z_guard h
      obtain ⟨μ34, eμ34, h⟩ := z_bnd h
      refine z_iast (pc := 199) X.1 hW rfl ⟨g33.1, g33.2⟩ dX5_slip_199 (fun H locs hW => ?_)
      replace hW : zW D cy ad A s.heap μ34 H locs := by rw [eμ34]; exact hW
      exact CJ5_slip_200 X N rec109 rec134 hrec109 hrec134 x1 x2 x3 x4 x5 x6 x8 x10 w26 x13 μ34 h _ _ ls hW (lv_sub hl [1, 2, 3, 4, 5, 6, 7, 8, 9, 0, 10] rfl)
theorem CL5_slip_134 (X : zX p s m args meth c cX5_slip RX5 wsX5_slip 14 D cy ad (some .long) A) (N : Nat) (rec109 : Int → Int → Int → Int → Int → Int → Int → Int → mm → Option (Int × mm)) (hrec109 : ∀ (x1 : Int) (x2 : Int) (x3 : Int) (x4 : Int) (x5 : Int) (x6 : Int) (x8 : Int) (x10 : Int) (μ : mm), rec109 x1 x2 x3 x4 x5 x6 x8 x10 μ = some res → ∀ (H : Heap) (locs : List Loc) (ls : Array Slot), zW D cy ad A s.heap μ H locs → lv_has ls 14 [(0, .ref (ad 0)), (1, .int (iO x1)), (2, .int (iO x2)), (3, .int (iO x3)), (4, .int (iO x4)), (5, .int (iO x5)), (6, .long (lO x6)), (8, .long (lO x8)), (10, .int (iO x10))] → W p l e (rmD 5) s m args below meth c H locs 0 0 (MQ below (zQl D cy ad A res.1 res.2) args s 0 0 A) (F0 m 109 ls [])) : ∀ (k : Nat) (x1 : Int) (x2 : Int) (x3 : Int) (x4 : Int) (x5 : Int) (x6 : Int) (x8 : Int) (x10 : Int) (x11 : Int) (x13 : Int) (μ : mm), L5_slip_134 N rec109 k x1 x2 x3 x4 x5 x6 x8 x10 x11 x13 μ = some res → ∀ (H : Heap) (locs : List Loc) (ls : Array Slot), zW D cy ad A s.heap μ H locs → lv_has ls 14 [(0, .ref (ad 0)), (1, .int (iO x1)), (2, .int (iO x2)), (3, .int (iO x3)), (4, .int (iO x4)), (5, .int (iO x5)), (6, .long (lO x6)), (8, .long (lO x8)), (10, .int (iO x10)), (11, .long (lO x11)), (13, .int (iO x13))] → W p l e (rmD 5) s m args below meth c H locs 0 0 (MQ below (zQl D cy ad A res.1 res.2) args s 0 0 A) (F0 m 134 ls []) := by
  intro k
  induction k with
  | zero =>
    intro x1 x2 x3 x4 x5 x6 x8 x10 x11 x13 μ h H locs ls hW hl
    exact absurd h (by rw [L5_slip_134]; exact fun z => by cases z)
  | succ k ih =>
    intro x1 x2 x3 x4 x5 x6 x8 x10 x11 x13 μ h H locs ls hW hl
    rw [L5_slip_134] at h
    refine z_iload (pc := 134) X.1 hl 10 rfl dX5_slip_134 ?_
    refine z_iload_n (pc := 136) X.1 hl 2 rfl rfl dX5_slip_136 ?_
    obtain ⟨g18, h⟩ := z_guard h
    refine z_icmp_ge (pc := 137) (tgt := 213) X.1 dX5_slip_137 (by decide) ⟨g18.1, g18.2⟩ h (fun c38 h => ?_) (fun c38 h => ?_)
    · refine z_lload (pc := 213) X.1 hl 6 rfl dX5_slip_213 ?_
      refine z_aload_n (pc := 215) X.1 hl 0 rfl rfl dX5_slip_215 ?_
      refine z_aload_n (pc := 216) X.1 hl 0 rfl rfl dX5_slip_216 ?_
      refine z_get1 (pc := 217) X.1 hW rfl iX5_slip_1 1 (by decide) rfl (by decide +kernel) dX5_slip_217 ?_
      refine z_iload_n (pc := 220) X.1 hl 1 rfl rfl dX5_slip_220 ?_
      obtain ⟨q19, eq19, h⟩ := z_bind h
      refine z_callV1I (pc := 221) (n := 2) (As := [.ref (ad 2), .int (iO x1)]) (rest := [.long (lO x6)]) X hW hl rfl (C5_throughOf l N 2 x1 (by decide) μ eq19) gX5_slip_X5_throughOf rfl (by decide +kernel) rfl (by decide) rfl (Nat.le_of_ble_eq_true rfl) dX5_slip_221 (fun H locs hW => ?_)
      refine z_iload (pc := 224) X.1 hl 4 rfl dX5_slip_224 ?_
      obtain ⟨g20, h⟩ := z_guard h
      refine z_icmp_lt (pc := 226) (tgt := 234) X.1 dX5_slip_226 (by decide) ⟨g20.1, g20.2⟩ h (fun c22 h => ?_) (fun c22 h => ?_)
      · refine z_lconst0 (pc := 234) X.1 dX5_slip_234 ?_
        exact CJ5_slip_235 X N rec109 hrec109 x1 x2 x3 x4 x5 x8 x10 0 x6 μ h _ _ ls hW (lv_sub hl [0, 1, 2, 3, 4, 5, 7, 8] rfl)
      · refine z_lload (pc := 229) X.1 hl 9 rfl dX5_slip_229 ?_
        refine z_goto (pc := 231) (tgt := 235) X.1 dX5_slip_231 (by decide) ?_
        exact CJ5_slip_235 X N rec109 hrec109 x1 x2 x3 x4 x5 x8 x10 x11 x6 μ h _ _ ls hW (lv_sub hl [0, 1, 2, 3, 4, 5, 7, 8] rfl)
    · refine z_lload (pc := 140) X.1 hl 9 rfl dX5_slip_140 ?_
      refine z_iload (pc := 142) X.1 hl 8 rfl dX5_slip_142 ?_
      refine z_iload (pc := 144) X.1 hl 10 rfl dX5_slip_144 ?_
      obtain ⟨q23, eq23, h⟩ := z_bind h
      refine z_callSI (pc := 146) (n := 2) (As := [.int (iO x10), .int (iO x13)]) (rest := [.long (lO x11)]) X hW hl (C5_has l N x10 x13 μ eq23) gX5_slip_X5_has rfl (by decide +kernel) rfl (by decide) rfl (Nat.le_of_ble_eq_true rfl) dX5_slip_146 (fun H locs hW => ?_)
      obtain ⟨g24, h⟩ := z_guard h
      refine z_if_eq (pc := 149) (tgt := 156) X.1 dX5_slip_149 (by decide) g24 h (fun c37 h => ?_) (fun c37 h => ?_)
      · refine z_iload_n (pc := 156) X.1 hl 3 rfl rfl dX5_slip_156 ?_
        refine z_iconst (pc := 157) X.1 dX5_slip_157 ?_
        refine z_isub (pc := 158) X.1 dX5_slip_158 ?_
        obtain ⟨g25, h⟩ := z_guard h
        refine z_i2l (pc := 159) X.1 dX5_slip_159 g25 ?_
        exact CJ5_slip_160 X N rec109 (L5_slip_134 N rec109 k) hrec109 ih x1 x2 x3 x4 x5 x6 x8 x10 x13 (x3 - 1) x11 μ h _ _ ls hW (lv_sub hl [0, 1, 2, 3, 4, 5, 6, 7, 8, 10] rfl)
      · refine z_lconst1 (pc := 152) X.1 dX5_slip_152 ?_
        refine z_goto (pc := 153) (tgt := 160) X.1 dX5_slip_153 (by decide) ?_
        exact CJ5_slip_160 X N rec109 (L5_slip_134 N rec109 k) hrec109 ih x1 x2 x3 x4 x5 x6 x8 x10 x13 1 x11 μ h _ _ ls hW (lv_sub hl [0, 1, 2, 3, 4, 5, 6, 7, 8, 10] rfl)
theorem CL5_slip_109 (X : zX p s m args meth c cX5_slip RX5 wsX5_slip 14 D cy ad (some .long) A) (N : Nat) : ∀ (k : Nat) (x1 : Int) (x2 : Int) (x3 : Int) (x4 : Int) (x5 : Int) (x6 : Int) (x8 : Int) (x10 : Int) (μ : mm), L5_slip_109 N k x1 x2 x3 x4 x5 x6 x8 x10 μ = some res → ∀ (H : Heap) (locs : List Loc) (ls : Array Slot), zW D cy ad A s.heap μ H locs → lv_has ls 14 [(0, .ref (ad 0)), (1, .int (iO x1)), (2, .int (iO x2)), (3, .int (iO x3)), (4, .int (iO x4)), (5, .int (iO x5)), (6, .long (lO x6)), (8, .long (lO x8)), (10, .int (iO x10))] → W p l e (rmD 5) s m args below meth c H locs 0 0 (MQ below (zQl D cy ad A res.1 res.2) args s 0 0 A) (F0 m 109 ls []) := by
  intro k
  induction k with
  | zero =>
    intro x1 x2 x3 x4 x5 x6 x8 x10 μ h H locs ls hW hl
    exact absurd h (by rw [L5_slip_109]; exact fun z => by cases z)
  | succ k ih =>
    intro x1 x2 x3 x4 x5 x6 x8 x10 μ h H locs ls hW hl
    rw [L5_slip_109] at h
    refine z_iload (pc := 109) X.1 hl 8 rfl dX5_slip_109 ?_
    refine z_iconst (pc := 111) X.1 dX5_slip_111 ?_
    refine z_iload_n (pc := 112) X.1 hl 2 rfl rfl dX5_slip_112 ?_
    obtain ⟨g14, h⟩ := z_guard h
    refine z_ishl (pc := 113) X.1 dX5_slip_113 ⟨g14.1, g14.2⟩ ?_
    obtain ⟨g15, h⟩ := z_guard h
    refine z_icmp_ge (pc := 114) (tgt := 244) X.1 dX5_slip_114 (by decide) ⟨g15.1, g15.2⟩ h (fun c39 h => ?_) (fun c39 h => ?_)
    · refine z_lload (pc := 244) X.1 hl 6 rfl dX5_slip_244 ?_
      refine z_lload (pc := 246) X.1 hl 7 rfl dX5_slip_246 ?_
      refine z_iload (pc := 248) X.1 hl 5 rfl dX5_slip_248 ?_
      obtain ⟨q16, eq16, h⟩ := z_bind h
      refine z_callSJ (pc := 250) (n := 3) (As := [.long (lO x6), .long (lO x8), .int (iO x5)]) (rest := []) X hW hl (C5_partOf l N x6 x8 x5 μ eq16) gX5_slip_X5_partOf rfl (by decide +kernel) rfl (by decide) rfl (Nat.le_of_ble_eq_true rfl) dX5_slip_250 (fun H locs hW => ?_)
      exact z_lret (pc := 253) X hW (z_p1 h) (z_p2 h) dX5_slip_253
    · refine z_lconst1 (pc := 117) X.1 dX5_slip_117 ?_
      refine z_lstore (pc := 118) (i := 11) X.1 [(11, .long (lO 1)), (0, .ref (ad 0)), (1, .int (iO x1)), (2, .int (iO x2)), (3, .int (iO x3)), (4, .int (iO x4)), (5, .int (iO x5)), (6, .long (lO x6)), (8, .long (lO x8)), (10, .int (iO x10))] hl rfl (by decide) rfl dX5_slip_118 (fun ls hl => ?_)
      refine z_aload_n (pc := 120) X.1 hl 1 rfl rfl dX5_slip_120 ?_
      refine z_get1 (pc := 121) X.1 hW rfl iX5_slip_1 0 (by decide) rfl (by decide +kernel) dX5_slip_121 ?_
      refine z_aload_n (pc := 124) X.1 hl 1 rfl rfl dX5_slip_124 ?_
      refine z_get1 (pc := 125) X.1 hW rfl iX5_slip_1 1 (by decide) rfl (by decide +kernel) dX5_slip_125 ?_
      obtain ⟨q17, eq17, h⟩ := z_bind h
      refine z_callSV (pc := 128) (n := 2) (As := [.ref (ad 1), .ref (ad 2)]) (rest := []) X hW hl (C5_copies l N 1 2 (by decide) (by decide) μ eq17) gX5_slip_X5_copies rfl (by decide +kernel) rfl (by decide) rfl (Nat.le_of_ble_eq_true rfl) dX5_slip_128 (fun H locs hW => ?_)
      refine z_iconst (pc := 131) X.1 dX5_slip_131 ?_
      refine z_istore (pc := 132) (i := 13) X.1 [(13, .int (iO 0)), (11, .long (lO 1)), (0, .ref (ad 0)), (1, .int (iO x1)), (2, .int (iO x2)), (3, .int (iO x3)), (4, .int (iO x4)), (5, .int (iO x5)), (6, .long (lO x6)), (8, .long (lO x8)), (10, .int (iO x10))] hl rfl (by decide) rfl dX5_slip_132 (fun ls hl => ?_)
      exact CL5_slip_134 X N (L5_slip_109 N k) ih N x1 x2 x3 x4 x5 x6 x8 x10 1 0 q17 h _ _ ls hW (lv_sub hl [2, 3, 4, 5, 6, 7, 8, 9, 10, 1, 0] rfl)
theorem CL5_slip_87 (X : zX p s m args meth c cX5_slip RX5 wsX5_slip 14 D cy ad (some .long) A) (N : Nat) : ∀ (k : Nat) (x1 : Int) (x2 : Int) (x3 : Int) (x4 : Int) (x5 : Int) (x6 : Int) (x8 : Int) (x10 : Int) (μ : mm), L5_slip_87 N k x1 x2 x3 x4 x5 x6 x8 x10 μ = some res → ∀ (H : Heap) (locs : List Loc) (ls : Array Slot), zW D cy ad A s.heap μ H locs → lv_has ls 14 [(0, .ref (ad 0)), (1, .int (iO x1)), (2, .int (iO x2)), (3, .int (iO x3)), (4, .int (iO x4)), (5, .int (iO x5)), (6, .long (lO x6)), (8, .long (lO x8)), (10, .int (iO x10))] → W p l e (rmD 5) s m args below meth c H locs 0 0 (MQ below (zQl D cy ad A res.1 res.2) args s 0 0 A) (F0 m 87 ls []) := by
  intro k
  induction k with
  | zero =>
    intro x1 x2 x3 x4 x5 x6 x8 x10 μ h H locs ls hW hl
    exact absurd h (by rw [L5_slip_87]; exact fun z => by cases z)
  | succ k ih =>
    intro x1 x2 x3 x4 x5 x6 x8 x10 μ h H locs ls hW hl
    rw [L5_slip_87] at h
    refine z_iload (pc := 87) X.1 hl 8 rfl dX5_slip_87 ?_
    refine z_iload_n (pc := 89) X.1 hl 2 rfl rfl dX5_slip_89 ?_
    obtain ⟨g13, h⟩ := z_guard h
    refine z_icmp_ge (pc := 90) (tgt := 106) X.1 dX5_slip_90 (by decide) ⟨g13.1, g13.2⟩ h (fun c42 h => ?_) (fun c42 h => ?_)
    · refine z_iconst (pc := 106) X.1 dX5_slip_106 ?_
      refine z_istore (pc := 107) (i := 10) X.1 [(10, .int (iO 0)), (0, .ref (ad 0)), (1, .int (iO x1)), (2, .int (iO x2)), (3, .int (iO x3)), (4, .int (iO x4)), (5, .int (iO x5)), (6, .long (lO x6)), (8, .long (lO x8))] hl rfl (by decide) rfl dX5_slip_107 (fun ls hl => ?_)
      exact CL5_slip_109 X N N x1 x2 x3 x4 x5 x6 x8 0 μ h _ _ ls hW (lv_sub hl [1, 2, 3, 4, 5, 6, 7, 8, 0] rfl)
    · refine z_lload (pc := 93) X.1 hl 7 rfl dX5_slip_93 ?_
      refine z_iload_n (pc := 95) X.1 hl 3 rfl rfl dX5_slip_95 ?_
      obtain ⟨g40, h⟩ := z_guard h
      refine z_i2l (pc := 96) X.1 dX5_slip_96 g40 ?_
      refine z_lmul (pc := 97) X.1 dX5_slip_97 ?_
      obtain ⟨w41, ew41, h⟩ := z_bnd h
      refine z_lstore (pc := 98) (i := 8) X.1 [(8, .long (lO w41)), (0, .ref (ad 0)), (1, .int (iO x1)), (2, .int (iO x2)), (3, .int (iO x3)), (4, .int (iO x4)), (5, .int (iO x5)), (6, .long (lO x6)), (10, .int (iO x10))] hl ew41 (by decide) rfl dX5_slip_98 (fun ls hl => ?_)
      refine z_iinc (pc := 100) (i := 10) X.1 [(10, .int (iO (x10 + 1))), (8, .long (lO w41)), (0, .ref (ad 0)), (1, .int (iO x1)), (2, .int (iO x2)), (3, .int (iO x3)), (4, .int (iO x4)), (5, .int (iO x5)), (6, .long (lO x6))] hl 8 rfl rfl (by decide) rfl dX5_slip_100 (fun ls hl => ?_)
      refine z_goto (pc := 103) (tgt := 87) X.1 dX5_slip_103 (by decide) ?_
      exact ih x1 x2 x3 x4 x5 x6 w41 (x10 + 1) μ h _ _ ls hW (lv_sub hl [2, 3, 4, 5, 6, 7, 8, 1, 0] rfl)
end
theorem C5_slip (l : Launch) {D : va_G} {cy : ClassId × ClassId} {ad : Nat → Nat} (N : Nat) (a0 : Int) (a1 : Int) (a2 : Int) (a3 : Int) (a4 : Int) (μ : mm) {res : (Int × mm)} (h : M5_slip N a0 a1 a2 a3 a4 μ = some res) : zJ l yX5_slip wsX5_slip 5 D cy ad [.ref (ad 0), .int (iO a0), .int (iO a1), .int (iO a2), .int (iO a3), .int (iO a4)] μ res.1 res.2 := by
  refine zJ.of RX5 rfl (by decide) rfl (Nat.le_of_ble_eq_true rfl) ?_
  intro p e s m args below meth c A X hW ls hl
  have hl : lv_has ls 14 [(0, .ref (ad 0)), (1, .int (iO a0)), (2, .int (iO a1)), (3, .int (iO a2)), (4, .int (iO a3)), (5, .int (iO a4))] := hl
  unfold M5_slip at h
  refine z_aload_n (pc := 0) X.1 hl 0 rfl rfl dX5_slip_0 ?_
  refine z_iload_n (pc := 1) X.1 hl 1 rfl rfl dX5_slip_1 ?_
  obtain ⟨q1, eq1, h⟩ := z_bind h
  refine z_callV1I (pc := 2) (n := 1) (As := [.int (iO a0)]) (rest := []) X hW hl rfl (C5_isOne l N a0 μ eq1) gX5_slip_X5_isOne rfl (by decide +kernel) rfl (by decide) rfl (Nat.le_of_ble_eq_true rfl) dX5_slip_2 (fun H locs hW => ?_)
  obtain ⟨g2, h⟩ := z_guard h
  refine z_if_ne (pc := 5) (tgt := 14) X.1 dX5_slip_5 (by decide) g2 h (fun c52 h => ?_) (fun c52 h => ?_)
  · refine z_iload_n (pc := 14) X.1 hl 2 rfl rfl dX5_slip_14 ?_
    obtain ⟨g3, h⟩ := z_guard h
    refine z_if_lt (pc := 15) (tgt := 28) X.1 dX5_slip_15 (by decide) g3 h (fun c50 h => ?_) (fun c50 h => ?_)
    · exact CJ5_slip_28 X N  μ h _ _ ls hW (lv_sub hl [0] rfl)
    · refine z_iload (pc := 18) X.1 hl 4 rfl dX5_slip_18 ?_
      obtain ⟨g5, h⟩ := z_guard h
      refine z_if_lt (pc := 20) (tgt := 28) X.1 dX5_slip_20 (by decide) g5 h (fun c49 h => ?_) (fun c49 h => ?_)
      · exact CJ5_slip_28 X N  μ h _ _ ls hW (lv_sub hl [0] rfl)
      · refine z_iload_n (pc := 23) X.1 hl 3 rfl rfl dX5_slip_23 ?_
        refine z_iconst (pc := 24) X.1 dX5_slip_24 ?_
        obtain ⟨g6, h⟩ := z_guard h
        refine z_icmp_ge (pc := 25) (tgt := 35) X.1 dX5_slip_25 (by decide) ⟨g6, (by decide)⟩ h (fun c48 h => ?_) (fun c48 h => ?_)
        · refine z_iload_n (pc := 35) X.1 hl 2 rfl rfl dX5_slip_35 ?_
          refine z_bipush (pc := 36) X.1 dX5_slip_36 (by decide) ?_
          obtain ⟨g7, h⟩ := z_guard h
          refine z_icmp_gt (pc := 38) (tgt := 54) X.1 dX5_slip_38 (by decide) ⟨g7, (by decide)⟩ h (fun c47 h => ?_) (fun c47 h => ?_)
          · exact CJ5_slip_54 X N  μ h _ _ ls hW (lv_sub hl [0] rfl)
          · refine z_iload_n (pc := 41) X.1 hl 3 rfl rfl dX5_slip_41 ?_
            refine z_bipush (pc := 42) X.1 dX5_slip_42 (by decide) ?_
            obtain ⟨g9, h⟩ := z_guard h
            refine z_icmp_gt (pc := 44) (tgt := 54) X.1 dX5_slip_44 (by decide) ⟨g9, (by decide)⟩ h (fun c46 h => ?_) (fun c46 h => ?_)
            · exact CJ5_slip_54 X N  μ h _ _ ls hW (lv_sub hl [0] rfl)
            · refine z_iload (pc := 47) X.1 hl 4 rfl dX5_slip_47 ?_
              refine z_bipush (pc := 49) X.1 dX5_slip_49 (by decide) ?_
              obtain ⟨g10, h⟩ := z_guard h
              refine z_icmp_le (pc := 51) (tgt := 61) X.1 dX5_slip_51 (by decide) ⟨g10, (by decide)⟩ h (fun c45 h => ?_) (fun c45 h => ?_)
              · refine z_iload (pc := 61) X.1 hl 5 rfl dX5_slip_61 ?_
                refine z_iconst (pc := 63) X.1 dX5_slip_63 ?_
                refine z_iconst (pc := 64) X.1 dX5_slip_64 ?_
                obtain ⟨q11, eq11, h⟩ := z_bind h
                refine z_callSI (pc := 65) (n := 3) (As := [.int (iO a4), .int (iO 0), .int (iO 1)]) (rest := []) X hW hl (C5_isIn l N a4 0 1 μ eq11) gX5_slip_X5_isIn rfl (by decide +kernel) rfl (by decide) rfl (Nat.le_of_ble_eq_true rfl) dX5_slip_65 (fun H locs hW => ?_)
                obtain ⟨g12, h⟩ := z_guard h
                refine z_if_ne (pc := 68) (tgt := 78) X.1 dX5_slip_68 (by decide) g12 h (fun c44 h => ?_) (fun c44 h => ?_)
                · refine z_lconst0 (pc := 78) X.1 dX5_slip_78 ?_
                  refine z_lstore (pc := 79) (i := 6) X.1 [(6, .long (lO 0)), (0, .ref (ad 0)), (1, .int (iO a0)), (2, .int (iO a1)), (3, .int (iO a2)), (4, .int (iO a3)), (5, .int (iO a4))] hl rfl (by decide) rfl dX5_slip_79 (fun ls hl => ?_)
                  refine z_lconst1 (pc := 81) X.1 dX5_slip_81 ?_
                  refine z_lstore (pc := 82) (i := 8) X.1 [(8, .long (lO 1)), (6, .long (lO 0)), (0, .ref (ad 0)), (1, .int (iO a0)), (2, .int (iO a1)), (3, .int (iO a2)), (4, .int (iO a3)), (5, .int (iO a4))] hl rfl (by decide) rfl dX5_slip_82 (fun ls hl => ?_)
                  refine z_iconst (pc := 84) X.1 dX5_slip_84 ?_
                  refine z_istore (pc := 85) (i := 10) X.1 [(10, .int (iO 0)), (8, .long (lO 1)), (6, .long (lO 0)), (0, .ref (ad 0)), (1, .int (iO a0)), (2, .int (iO a1)), (3, .int (iO a2)), (4, .int (iO a3)), (5, .int (iO a4))] hl rfl (by decide) rfl dX5_slip_85 (fun ls hl => ?_)
                  exact CL5_slip_87 X N N a0 a1 a2 a3 a4 0 1 0 μ h _ _ ls hW (lv_sub hl [3, 4, 5, 6, 7, 8, 2, 1, 0] rfl)
                · refine z_aload_n (pc := 71) X.1 hl 0 rfl rfl dX5_slip_71 ?_
                  refine z_bipush (pc := 72) X.1 dX5_slip_72 (by decide) ?_
                  obtain ⟨q43, eq43, h⟩ := z_bind h
                  refine z_callV1J (pc := 74) (n := 1) (As := [.int (iO (-2))]) (rest := []) X hW hl rfl (C5_noWide l N (-2) μ eq43) gX5_slip_X5_noWide rfl (by decide +kernel) rfl (by decide) rfl (Nat.le_of_ble_eq_true rfl) dX5_slip_74 (fun H locs hW => ?_)
                  exact z_lret (pc := 77) X hW (z_p1 h) (z_p2 h) dX5_slip_77
              · exact CJ5_slip_54 X N  μ h _ _ ls hW (lv_sub hl [0] rfl)
        · exact CJ5_slip_28 X N  μ h _ _ ls hW (lv_sub hl [0] rfl)
  · refine z_aload_n (pc := 8) X.1 hl 0 rfl rfl dX5_slip_8 ?_
    refine z_iconst (pc := 9) X.1 dX5_slip_9 ?_
    obtain ⟨q51, eq51, h⟩ := z_bind h
    refine z_callV1J (pc := 10) (n := 1) (As := [.int (iO (-1))]) (rest := []) X hW hl rfl (C5_noWide l N (-1) μ eq51) gX5_slip_X5_noWide rfl (by decide +kernel) rfl (by decide) rfl (Nat.le_of_ble_eq_true rfl) dX5_slip_10 (fun H locs hW => ?_)
    exact z_lret (pc := 13) X hW (z_p1 h) (z_p2 h) dX5_slip_13
-- X5_mean
theorem iX5_mean_1 : ∀ w ∈ wsX50, w ∈ wsX5_mean := by decide +kernel
theorem C5_mean (l : Launch) {D : va_G} {cy : ClassId × ClassId} {ad : Nat → Nat} (N : Nat) (a0 : Int) (μ : mm) {res : (Int × mm)} (h : M5_mean N a0 μ = some res) : zJ l yX5_mean wsX5_mean 2 D cy ad [.ref (ad 0), .int (iO a0)] μ res.1 res.2 := by
  refine zJ.of RX5 rfl (by decide) rfl (Nat.le_of_ble_eq_true rfl) ?_
  intro p e s m args below meth c A X hW ls hl
  have hl : lv_has ls 2 [(0, .ref (ad 0)), (1, .int (iO a0))] := hl
  unfold M5_mean at h
  refine z_iload_n (pc := 0) X.1 hl 1 rfl rfl dX5_mean_0 ?_
  refine z_iconst (pc := 1) X.1 dX5_mean_1 ?_
  refine z_iconst (pc := 2) X.1 dX5_mean_2 ?_
  obtain ⟨q1, eq1, h⟩ := z_bind h
  refine z_callSI (pc := 3) (n := 3) (As := [.int (iO a0), .int (iO 0), .int (iO 1)]) (rest := []) X hW hl (C5_isIn l N a0 0 1 μ eq1) gX5_mean_X5_isIn rfl (by decide +kernel) rfl (by decide) rfl (Nat.le_of_ble_eq_true rfl) dX5_mean_3 (fun H locs hW => ?_)
  obtain ⟨g2, h⟩ := z_guard h
  refine z_if_eq (pc := 6) (tgt := 32) X.1 dX5_mean_6 (by decide) g2 h (fun c8 h => ?_) (fun c8 h => ?_)
  · refine z_aload_n (pc := 32) X.1 hl 0 rfl rfl dX5_mean_32 ?_
    refine z_bipush (pc := 33) X.1 dX5_mean_33 (by decide) ?_
    obtain ⟨q3, eq3, h⟩ := z_bind h
    refine z_callV1J (pc := 35) (n := 1) (As := [.int (iO (-2))]) (rest := []) X hW hl rfl (C5_noWide l N (-2) μ eq3) gX5_mean_X5_noWide rfl (by decide +kernel) rfl (by decide) rfl (Nat.le_of_ble_eq_true rfl) dX5_mean_35 (fun H locs hW => ?_)
    exact z_lret (pc := 38) X hW (z_p1 h) (z_p2 h) dX5_mean_38
  · refine z_aload_n (pc := 9) X.1 hl 0 rfl rfl dX5_mean_9 ?_
    refine z_get1 (pc := 10) X.1 hW rfl iX5_mean_1 0 (by decide) rfl (by decide +kernel) dX5_mean_10 ?_
    refine z_iconst (pc := 13) X.1 dX5_mean_13 ?_
    obtain ⟨q4, eq4, h⟩ := z_bind h
    refine z_callSI (pc := 14) (n := 2) (As := [.ref (ad 1), .int (iO 2)]) (rest := []) X hW hl (C5_allOf l N 1 2 (by decide) μ eq4) gX5_mean_X5_allOf rfl (by decide +kernel) rfl (by decide) rfl (Nat.le_of_ble_eq_true rfl) dX5_mean_14 (fun H locs hW => ?_)
    obtain ⟨g5, h⟩ := z_guard h
    refine z_i2l (pc := 17) X.1 dX5_mean_17 g5 ?_
    refine z_aload_n (pc := 18) X.1 hl 0 rfl rfl dX5_mean_18 ?_
    refine z_get1 (pc := 19) X.1 hW rfl iX5_mean_1 0 (by decide) rfl (by decide +kernel) dX5_mean_19 ?_
    refine z_iconst (pc := 22) X.1 dX5_mean_22 ?_
    refine z_iald (pc := 23) X.1 hW rfl ⟨(by decide), (by decide)⟩ dX5_mean_23 ?_
    obtain ⟨g6, h⟩ := z_guard h
    refine z_i2l (pc := 24) X.1 dX5_mean_24 g6 ?_
    refine z_iload_n (pc := 25) X.1 hl 1 rfl rfl dX5_mean_25 ?_
    obtain ⟨q7, eq7, h⟩ := z_bind h
    refine z_callSJ (pc := 26) (n := 3) (As := [.long (lO q4), .long (lO (μ 1 0)), .int (iO a0)]) (rest := []) X hW hl (C5_partOf l N q4 (μ 1 0) a0 μ eq7) gX5_mean_X5_partOf rfl (by decide +kernel) rfl (by decide) rfl (Nat.le_of_ble_eq_true rfl) dX5_mean_26 (fun H locs hW => ?_)
    refine z_goto (pc := 29) (tgt := 38) X.1 dX5_mean_29 (by decide) ?_
    exact z_lret (pc := 38) X hW (z_p1 h) (z_p2 h) dX5_mean_38
-- X5_whatIs
theorem iX5_whatIs_1 : ∀ w ∈ wsX50, w ∈ wsX5_whatIs := by decide +kernel
section
variable {p : Program} {l : Launch} {e : Env} {s : State} {m : MethodId} {args : Array Value} {below : List Frame} {meth : Method} {c : Code} {D : va_G} {cy : ClassId × ClassId} {ad : Nat → Nat} {A : Nat → Prop} {res : (Int × mm)}
theorem CJ5_whatIs_146 (X : zX p s m args meth c cX5_whatIs RX5 wsX5_whatIs 7 D cy ad (some .int) A) (N : Nat) (rec35 : Int → Int → Int → Int → mm → Option (Int × mm)) (hrec35 : ∀ (x1 : Int) (x2 : Int) (x3 : Int) (x4 : Int) (μ : mm), rec35 x1 x2 x3 x4 μ = some res → ∀ (H : Heap) (locs : List Loc) (ls : Array Slot), zW D cy ad A s.heap μ H locs → lv_has ls 7 [(0, .ref (ad 0)), (1, .int (iO x1)), (2, .int (iO x2)), (3, .int (iO x3)), (4, .int (iO x4))] → W p l e (rmD 5) s m args below meth c H locs 0 0 (MQ below (zQi D cy ad A res.1 res.2) args s 0 0 A) (F0 m 35 ls [])) : ∀ (x1 : Int) (x2 : Int) (x4 : Int) (y0 : Int) (y1 : Int) (μ : mm), J5_whatIs_146 N rec35 x1 x2 x4 y0 y1 μ = some res → ∀ (H : Heap) (locs : List Loc) (ls : Array Slot), zW D cy ad A s.heap μ H locs → lv_has ls 7 [(0, .ref (ad 0)), (1, .int (iO x1)), (2, .int (iO x2)), (4, .int (iO x4))] → W p l e (rmD 5) s m args below meth c H locs 0 0 (MQ below (zQi D cy ad A res.1 res.2) args s 0 0 A) (F0 m 146 ls [.int (iO y0), .int (iO y1)]) := by
  intro x1 x2 x4 y0 y1 μ h H locs ls hW hl
  rw [J5_whatIs_146] at h
  refine z_ior (pc := 146) X.1 dX5_whatIs_146 ?_
  obtain ⟨w12, ew12, h⟩ := z_bnd h
  refine z_istore_n (pc := 147) (i := 3) X.1 [(3, .int (iO w12)), (0, .ref (ad 0)), (1, .int (iO x1)), (2, .int (iO x2)), (4, .int (iO x4))] hl ew12 rfl (by decide) rfl dX5_whatIs_147 (fun ls hl => ?_)
  refine z_iinc (pc := 148) (i := 4) X.1 [(4, .int (iO (x4 + 1))), (3, .int (iO w12)), (0, .ref (ad 0)), (1, .int (iO x1)), (2, .int (iO x2))] hl 4 rfl rfl (by decide) rfl dX5_whatIs_148 (fun ls hl => ?_)
  refine z_goto (pc := 151) (tgt := 35) X.1 dX5_whatIs_151 (by decide) ?_
  exact hrec35 x1 x2 w12 (x4 + 1) μ h _ _ ls hW (lv_sub hl [2, 3, 4, 1, 0] rfl)
theorem CJ5_whatIs_116 (X : zX p s m args meth c cX5_whatIs RX5 wsX5_whatIs 7 D cy ad (some .int) A) (N : Nat) (rec35 : Int → Int → Int → Int → mm → Option (Int × mm)) (rec80 : Int → Int → Int → Int → Int → Int → mm → Option (Int × mm)) (hrec35 : ∀ (x1 : Int) (x2 : Int) (x3 : Int) (x4 : Int) (μ : mm), rec35 x1 x2 x3 x4 μ = some res → ∀ (H : Heap) (locs : List Loc) (ls : Array Slot), zW D cy ad A s.heap μ H locs → lv_has ls 7 [(0, .ref (ad 0)), (1, .int (iO x1)), (2, .int (iO x2)), (3, .int (iO x3)), (4, .int (iO x4))] → W p l e (rmD 5) s m args below meth c H locs 0 0 (MQ below (zQi D cy ad A res.1 res.2) args s 0 0 A) (F0 m 35 ls [])) (hrec80 : ∀ (x1 : Int) (x2 : Int) (x3 : Int) (x4 : Int) (x5 : Int) (x6 : Int) (μ : mm), rec80 x1 x2 x3 x4 x5 x6 μ = some res → ∀ (H : Heap) (locs : List Loc) (ls : Array Slot), zW D cy ad A s.heap μ H locs → lv_has ls 7 [(0, .ref (ad 0)), (1, .int (iO x1)), (2, .int (iO x2)), (3, .int (iO x3)), (4, .int (iO x4)), (5, .int (iO x5)), (6, .int (iO x6))] → W p l e (rmD 5) s m args below meth c H locs 0 0 (MQ below (zQi D cy ad A res.1 res.2) args s 0 0 A) (F0 m 80 ls [])) : ∀ (x1 : Int) (x2 : Int) (x3 : Int) (x4 : Int) (x6 : Int) (y0 : Int) (y1 : Int) (μ : mm), J5_whatIs_116 N rec35 rec80 x1 x2 x3 x4 x6 y0 y1 μ = some res → ∀ (H : Heap) (locs : List Loc) (ls : Array Slot), zW D cy ad A s.heap μ H locs → lv_has ls 7 [(0, .ref (ad 0)), (1, .int (iO x1)), (2, .int (iO x2)), (3, .int (iO x3)), (4, .int (iO x4)), (6, .int (iO x6))] → W p l e (rmD 5) s m args below meth c H locs 0 0 (MQ below (zQi D cy ad A res.1 res.2) args s 0 0 A) (F0 m 116 ls [.int (iO y0), .int (iO y1)]) := by
  intro x1 x2 x3 x4 x6 y0 y1 μ h H locs ls hW hl
  rw [J5_whatIs_116] at h
  refine z_iand (pc := 116) X.1 dX5_whatIs_116 ?_
  obtain ⟨w18, ew18, h⟩ := z_bnd h
  refine z_istore (pc := 117) (i := 5) X.1 [(5, .int (iO w18)), (0, .ref (ad 0)), (1, .int (iO x1)), (2, .int (iO x2)), (3, .int (iO x3)), (4, .int (iO x4)), (6, .int (iO x6))] hl ew18 (by decide) rfl dX5_whatIs_117 (fun ls hl => ?_)
  refine z_aload_n (pc := 119) X.1 hl 1 rfl rfl dX5_whatIs_119 ?_
  refine z_get1 (pc := 120) X.1 hW rfl iX5_whatIs_1 1 (by decide) rfl (by decide +kernel) dX5_whatIs_120 ?_
  obtain ⟨q19, eq19, h⟩ := z_bind h
  refine z_callSV (pc := 123) (n := 1) (As := [.ref (ad 2)]) (rest := []) X hW hl (C5_day l N 2 (by decide) μ eq19) gX5_whatIs_X5_day rfl (by decide +kernel) rfl (by decide) rfl (Nat.le_of_ble_eq_true rfl) dX5_whatIs_123 (fun H locs hW => ?_)
  refine z_iinc (pc := 126) (i := 6) X.1 [(6, .int (iO (x6 + 1))), (5, .int (iO w18)), (0, .ref (ad 0)), (1, .int (iO x1)), (2, .int (iO x2)), (3, .int (iO x3)), (4, .int (iO x4))] hl 6 rfl rfl (by decide) rfl dX5_whatIs_126 (fun ls hl => ?_)
  refine z_goto (pc := 129) (tgt := 80) X.1 dX5_whatIs_129 (by decide) ?_
  exact hrec80 x1 x2 x3 x4 w18 (x6 + 1) q19 h _ _ ls hW (lv_sub hl [2, 3, 4, 5, 6, 1, 0] rfl)
theorem CL5_whatIs_80 (X : zX p s m args meth c cX5_whatIs RX5 wsX5_whatIs 7 D cy ad (some .int) A) (N : Nat) (rec35 : Int → Int → Int → Int → mm → Option (Int × mm)) (hrec35 : ∀ (x1 : Int) (x2 : Int) (x3 : Int) (x4 : Int) (μ : mm), rec35 x1 x2 x3 x4 μ = some res → ∀ (H : Heap) (locs : List Loc) (ls : Array Slot), zW D cy ad A s.heap μ H locs → lv_has ls 7 [(0, .ref (ad 0)), (1, .int (iO x1)), (2, .int (iO x2)), (3, .int (iO x3)), (4, .int (iO x4))] → W p l e (rmD 5) s m args below meth c H locs 0 0 (MQ below (zQi D cy ad A res.1 res.2) args s 0 0 A) (F0 m 35 ls [])) : ∀ (k : Nat) (x1 : Int) (x2 : Int) (x3 : Int) (x4 : Int) (x5 : Int) (x6 : Int) (μ : mm), L5_whatIs_80 N rec35 k x1 x2 x3 x4 x5 x6 μ = some res → ∀ (H : Heap) (locs : List Loc) (ls : Array Slot), zW D cy ad A s.heap μ H locs → lv_has ls 7 [(0, .ref (ad 0)), (1, .int (iO x1)), (2, .int (iO x2)), (3, .int (iO x3)), (4, .int (iO x4)), (5, .int (iO x5)), (6, .int (iO x6))] → W p l e (rmD 5) s m args below meth c H locs 0 0 (MQ below (zQi D cy ad A res.1 res.2) args s 0 0 A) (F0 m 80 ls []) := by
  intro k
  induction k with
  | zero =>
    intro x1 x2 x3 x4 x5 x6 μ h H locs ls hW hl
    exact absurd h (by rw [L5_whatIs_80]; exact fun z => by cases z)
  | succ k ih =>
    intro x1 x2 x3 x4 x5 x6 μ h H locs ls hW hl
    rw [L5_whatIs_80] at h
    refine z_iload (pc := 80) X.1 hl 6 rfl dX5_whatIs_80 ?_
    refine z_aload_n (pc := 82) X.1 hl 0 rfl rfl dX5_whatIs_82 ?_
    refine z_get1 (pc := 83) X.1 hW rfl iX5_whatIs_1 9 (by decide) rfl (by decide +kernel) dX5_whatIs_83 ?_
    obtain ⟨g10, h⟩ := z_guard h
    refine z_icmp_ge (pc := 86) (tgt := 132) X.1 dX5_whatIs_86 (by decide) ⟨g10.1, g10.2⟩ h (fun c21 h => ?_) (fun c21 h => ?_)
    · refine z_iload_n (pc := 132) X.1 hl 3 rfl rfl dX5_whatIs_132 ?_
      refine z_iload (pc := 133) X.1 hl 5 rfl dX5_whatIs_133 ?_
      obtain ⟨g11, h⟩ := z_guard h
      refine z_if_eq (pc := 135) (tgt := 145) X.1 dX5_whatIs_135 (by decide) g11 h (fun c14 h => ?_) (fun c14 h => ?_)
      · refine z_iconst (pc := 145) X.1 dX5_whatIs_145 ?_
        exact CJ5_whatIs_146 X N rec35 hrec35 x1 x2 x4 0 x3 μ h _ _ ls hW (lv_sub hl [0, 1, 2, 4] rfl)
      · refine z_iconst (pc := 138) X.1 dX5_whatIs_138 ?_
        refine z_iload (pc := 139) X.1 hl 4 rfl dX5_whatIs_139 ?_
        obtain ⟨g13, h⟩ := z_guard h
        refine z_ishl (pc := 141) X.1 dX5_whatIs_141 ⟨g13.1, g13.2⟩ ?_
        refine z_goto (pc := 142) (tgt := 146) X.1 dX5_whatIs_142 (by decide) ?_
        exact CJ5_whatIs_146 X N rec35 hrec35 x1 x2 x4 (1 * 2 ^ (x4 : Int).toNat) x3 μ h _ _ ls hW (lv_sub hl [0, 1, 2, 4] rfl)
    · refine z_iload (pc := 89) X.1 hl 5 rfl dX5_whatIs_89 ?_
      refine z_aload_n (pc := 91) X.1 hl 0 rfl rfl dX5_whatIs_91 ?_
      refine z_get1 (pc := 92) X.1 hW rfl iX5_whatIs_1 1 (by decide) rfl (by decide +kernel) dX5_whatIs_92 ?_
      refine z_iload_n (pc := 95) X.1 hl 1 rfl rfl dX5_whatIs_95 ?_
      refine z_iconst (pc := 96) X.1 dX5_whatIs_96 ?_
      refine z_callSI (pc := 97) (n := 2) (As := [.int (iO x1), .int (iO 2)]) (rest := [.ref (ad 2), .int (iO x5)]) X hW hl (C5_of l N x1 2 μ) gX5_whatIs_X5_of rfl (by decide +kernel) rfl (by decide) rfl (Nat.le_of_ble_eq_true rfl) dX5_whatIs_97 (fun H locs hW => ?_)
      obtain ⟨g15, h⟩ := z_guard h
      refine z_iald (pc := 100) X.1 hW rfl ⟨g15.1, g15.2⟩ dX5_whatIs_100 ?_
      refine z_aload_n (pc := 101) X.1 hl 0 rfl rfl dX5_whatIs_101 ?_
      refine z_get1 (pc := 102) X.1 hW rfl iX5_whatIs_1 6 (by decide) rfl (by decide +kernel) dX5_whatIs_102 ?_
      refine z_iload (pc := 105) X.1 hl 6 rfl dX5_whatIs_105 ?_
      obtain ⟨g16, h⟩ := z_guard h
      refine z_iald (pc := 107) X.1 hW rfl ⟨g16.1, g16.2⟩ dX5_whatIs_107 ?_
      obtain ⟨g17, h⟩ := z_guard h
      refine z_icmp_ne (pc := 108) (tgt := 115) X.1 dX5_whatIs_108 (by decide) ⟨g17.1, g17.2⟩ h (fun c20 h => ?_) (fun c20 h => ?_)
      · refine z_iconst (pc := 115) X.1 dX5_whatIs_115 ?_
        exact CJ5_whatIs_116 X N rec35 (L5_whatIs_80 N rec35 k) hrec35 ih x1 x2 x3 x4 x6 0 x5 μ h _ _ ls hW (lv_sub hl [0, 1, 2, 3, 4, 6] rfl)
      · refine z_iconst (pc := 111) X.1 dX5_whatIs_111 ?_
        refine z_goto (pc := 112) (tgt := 116) X.1 dX5_whatIs_112 (by decide) ?_
        exact CJ5_whatIs_116 X N rec35 (L5_whatIs_80 N rec35 k) hrec35 ih x1 x2 x3 x4 x6 1 x5 μ h _ _ ls hW (lv_sub hl [0, 1, 2, 3, 4, 6] rfl)
theorem CJ5_whatIs_48 (X : zX p s m args meth c cX5_whatIs RX5 wsX5_whatIs 7 D cy ad (some .int) A) (N : Nat) (rec35 : Int → Int → Int → Int → mm → Option (Int × mm)) (hrec35 : ∀ (x1 : Int) (x2 : Int) (x3 : Int) (x4 : Int) (μ : mm), rec35 x1 x2 x3 x4 μ = some res → ∀ (H : Heap) (locs : List Loc) (ls : Array Slot), zW D cy ad A s.heap μ H locs → lv_has ls 7 [(0, .ref (ad 0)), (1, .int (iO x1)), (2, .int (iO x2)), (3, .int (iO x3)), (4, .int (iO x4))] → W p l e (rmD 5) s m args below meth c H locs 0 0 (MQ below (zQi D cy ad A res.1 res.2) args s 0 0 A) (F0 m 35 ls [])) : ∀ (x1 : Int) (x2 : Int) (x3 : Int) (x4 : Int) (y0 : Int) (y1 : Int) (μ : mm), J5_whatIs_48 N rec35 x1 x2 x3 x4 y0 y1 μ = some res → ∀ (H : Heap) (locs : List Loc) (ls : Array Slot), zW D cy ad A s.heap μ H locs → lv_has ls 7 [(0, .ref (ad 0)), (1, .int (iO x1)), (2, .int (iO x2)), (3, .int (iO x3)), (4, .int (iO x4))] → W p l e (rmD 5) s m args below meth c H locs 0 0 (MQ below (zQi D cy ad A res.1 res.2) args s 0 0 A) (F0 m 48 ls [.int (iO y0), .int (iO y1)]) := by
  intro x1 x2 x3 x4 y0 y1 μ h H locs ls hW hl
  rw [J5_whatIs_48] at h
  obtain ⟨g6, h⟩ := z_guard h
  refine z_icmp_ge (pc := 48) (tgt := 154) X.1 dX5_whatIs_48 (by decide) ⟨g6.1, g6.2⟩ h (fun c22 h => ?_) (fun c22 h => ?_)
  · refine z_iload_n (pc := 154) X.1 hl 3 rfl rfl dX5_whatIs_154 ?_
    exact z_iret (pc := 155) X hW (z_p1 h) (z_p2 h) dX5_whatIs_155
  · refine z_iconst (pc := 51) X.1 dX5_whatIs_51 ?_
    refine z_istore (pc := 52) (i := 5) X.1 [(5, .int (iO 1)), (0, .ref (ad 0)), (1, .int (iO x1)), (2, .int (iO x2)), (3, .int (iO x3)), (4, .int (iO x4))] hl rfl (by decide) rfl dX5_whatIs_52 (fun ls hl => ?_)
    refine z_aload_n (pc := 54) X.1 hl 1 rfl rfl dX5_whatIs_54 ?_
    refine z_get1 (pc := 55) X.1 hW rfl iX5_whatIs_1 0 (by decide) rfl (by decide +kernel) dX5_whatIs_55 ?_
    refine z_aload_n (pc := 58) X.1 hl 1 rfl rfl dX5_whatIs_58 ?_
    refine z_get1 (pc := 59) X.1 hW rfl iX5_whatIs_1 1 (by decide) rfl (by decide +kernel) dX5_whatIs_59 ?_
    obtain ⟨q7, eq7, h⟩ := z_bind h
    refine z_callSV (pc := 62) (n := 2) (As := [.ref (ad 1), .ref (ad 2)]) (rest := []) X hW hl (C5_copies l N 1 2 (by decide) (by decide) μ eq7) gX5_whatIs_X5_copies rfl (by decide +kernel) rfl (by decide) rfl (Nat.le_of_ble_eq_true rfl) dX5_whatIs_62 (fun H locs hW => ?_)
    refine z_aload_n (pc := 65) X.1 hl 1 rfl rfl dX5_whatIs_65 ?_
    refine z_get1 (pc := 66) X.1 hW rfl iX5_whatIs_1 1 (by decide) rfl (by decide +kernel) dX5_whatIs_66 ?_
    refine z_iload_n (pc := 69) X.1 hl 2 rfl rfl dX5_whatIs_69 ?_
    refine z_iload_n (pc := 70) X.1 hl 3 rfl rfl dX5_whatIs_70 ?_
    refine z_callSI (pc := 71) (n := 2) (As := [.int (iO x1), .int (iO x2)]) (rest := [.ref (ad 2)]) X hW hl (C5_of l N x1 x2 q7) gX5_whatIs_X5_of rfl (by decide +kernel) rfl (by decide) rfl (Nat.le_of_ble_eq_true rfl) dX5_whatIs_71 (fun H locs hW => ?_)
    refine z_iload (pc := 74) X.1 hl 5 rfl dX5_whatIs_74 ?_
    obtain ⟨g8, h⟩ := z_guard h
    obtain ⟨μ9, eμ9, h⟩ := z_bnd h
    refine z_iast (pc := 76) X.1 hW rfl ⟨g8.1, g8.2⟩ dX5_whatIs_76 (fun H locs hW => ?_)
    replace hW : zW D cy ad A s.heap μ9 H locs := by rw [eμ9]; exact hW
    refine z_iconst (pc := 77) X.1 dX5_whatIs_77 ?_
    refine z_istore (pc := 78) (i := 6) X.1 [(6, .int (iO 0)), (5, .int (iO 1)), (0, .ref (ad 0)), (1, .int (iO x1)), (2, .int (iO x2)), (3, .int (iO x3)), (4, .int (iO x4))] hl rfl (by decide) rfl dX5_whatIs_78 (fun ls hl => ?_)
    exact CL5_whatIs_80 X N rec35 hrec35 N x1 x2 x3 x4 1 0 μ9 h _ _ ls hW (lv_sub hl [2, 3, 4, 5, 6, 1, 0] rfl)
theorem CL5_whatIs_35 (X : zX p s m args meth c cX5_whatIs RX5 wsX5_whatIs 7 D cy ad (some .int) A) (N : Nat) : ∀ (k : Nat) (x1 : Int) (x2 : Int) (x3 : Int) (x4 : Int) (μ : mm), L5_whatIs_35 N k x1 x2 x3 x4 μ = some res → ∀ (H : Heap) (locs : List Loc) (ls : Array Slot), zW D cy ad A s.heap μ H locs → lv_has ls 7 [(0, .ref (ad 0)), (1, .int (iO x1)), (2, .int (iO x2)), (3, .int (iO x3)), (4, .int (iO x4))] → W p l e (rmD 5) s m args below meth c H locs 0 0 (MQ below (zQi D cy ad A res.1 res.2) args s 0 0 A) (F0 m 35 ls []) := by
  intro k
  induction k with
  | zero =>
    intro x1 x2 x3 x4 μ h H locs ls hW hl
    exact absurd h (by rw [L5_whatIs_35]; exact fun z => by cases z)
  | succ k ih =>
    intro x1 x2 x3 x4 μ h H locs ls hW hl
    rw [L5_whatIs_35] at h
    refine z_iload (pc := 35) X.1 hl 4 rfl dX5_whatIs_35 ?_
    refine z_iload_n (pc := 37) X.1 hl 2 rfl rfl dX5_whatIs_37 ?_
    obtain ⟨g5, h⟩ := z_guard h
    refine z_if_ne (pc := 38) (tgt := 46) X.1 dX5_whatIs_38 (by decide) g5 h (fun c23 h => ?_) (fun c23 h => ?_)
    · refine z_bipush (pc := 46) X.1 dX5_whatIs_46 (by decide) ?_
      exact CJ5_whatIs_48 X N (L5_whatIs_35 N k) ih x1 x2 x3 x4 10 x4 μ h _ _ ls hW (lv_sub hl [0, 1, 2, 3, 4] rfl)
    · refine z_bipush (pc := 41) X.1 dX5_whatIs_41 (by decide) ?_
      refine z_goto (pc := 43) (tgt := 48) X.1 dX5_whatIs_43 (by decide) ?_
      exact CJ5_whatIs_48 X N (L5_whatIs_35 N k) ih x1 x2 x3 x4 6 x4 μ h _ _ ls hW (lv_sub hl [0, 1, 2, 3, 4] rfl)
end
theorem C5_whatIs (l : Launch) {D : va_G} {cy : ClassId × ClassId} {ad : Nat → Nat} (N : Nat) (a0 : Int) (a1 : Int) (μ : mm) {res : (Int × mm)} (h : M5_whatIs N a0 a1 μ = some res) : zI l yX5_whatIs wsX5_whatIs 5 D cy ad [.ref (ad 0), .int (iO a0), .int (iO a1)] μ res.1 res.2 := by
  refine zI.of RX5 rfl (by decide) rfl (Nat.le_of_ble_eq_true rfl) ?_
  intro p e s m args below meth c A X hW ls hl
  have hl : lv_has ls 7 [(0, .ref (ad 0)), (1, .int (iO a0)), (2, .int (iO a1))] := hl
  unfold M5_whatIs at h
  refine z_aload_n (pc := 0) X.1 hl 0 rfl rfl dX5_whatIs_0 ?_
  refine z_iload_n (pc := 1) X.1 hl 1 rfl rfl dX5_whatIs_1 ?_
  obtain ⟨q1, eq1, h⟩ := z_bind h
  refine z_callV1I (pc := 2) (n := 1) (As := [.int (iO a0)]) (rest := []) X hW hl rfl (C5_isOne l N a0 μ eq1) gX5_whatIs_X5_isOne rfl (by decide +kernel) rfl (by decide) rfl (Nat.le_of_ble_eq_true rfl) dX5_whatIs_2 (fun H locs hW => ?_)
  obtain ⟨g2, h⟩ := z_guard h
  refine z_if_ne (pc := 5) (tgt := 14) X.1 dX5_whatIs_5 (by decide) g2 h (fun c27 h => ?_) (fun c27 h => ?_)
  · refine z_iload_n (pc := 14) X.1 hl 2 rfl rfl dX5_whatIs_14 ?_
    refine z_iconst (pc := 15) X.1 dX5_whatIs_15 ?_
    refine z_iconst (pc := 16) X.1 dX5_whatIs_16 ?_
    obtain ⟨q3, eq3, h⟩ := z_bind h
    refine z_callSI (pc := 17) (n := 3) (As := [.int (iO a1), .int (iO 0), .int (iO 1)]) (rest := []) X hW hl (C5_isIn l N a1 0 1 μ eq3) gX5_whatIs_X5_isIn rfl (by decide +kernel) rfl (by decide) rfl (Nat.le_of_ble_eq_true rfl) dX5_whatIs_17 (fun H locs hW => ?_)
    obtain ⟨g4, h⟩ := z_guard h
    refine z_if_ne (pc := 20) (tgt := 30) X.1 dX5_whatIs_20 (by decide) g4 h (fun c25 h => ?_) (fun c25 h => ?_)
    · refine z_iconst (pc := 30) X.1 dX5_whatIs_30 ?_
      refine z_istore_n (pc := 31) (i := 3) X.1 [(3, .int (iO 0)), (0, .ref (ad 0)), (1, .int (iO a0)), (2, .int (iO a1))] hl rfl rfl (by decide) rfl dX5_whatIs_31 (fun ls hl => ?_)
      refine z_iconst (pc := 32) X.1 dX5_whatIs_32 ?_
      refine z_istore (pc := 33) (i := 4) X.1 [(4, .int (iO 0)), (3, .int (iO 0)), (0, .ref (ad 0)), (1, .int (iO a0)), (2, .int (iO a1))] hl rfl (by decide) rfl dX5_whatIs_33 (fun ls hl => ?_)
      exact CL5_whatIs_35 X N N a0 a1 0 0 μ h _ _ ls hW (lv_sub hl [2, 3, 4, 1, 0] rfl)
    · refine z_aload_n (pc := 23) X.1 hl 0 rfl rfl dX5_whatIs_23 ?_
      refine z_bipush (pc := 24) X.1 dX5_whatIs_24 (by decide) ?_
      obtain ⟨q24, eq24, h⟩ := z_bind h
      refine z_callV1I (pc := 26) (n := 1) (As := [.int (iO (-2))]) (rest := []) X hW hl rfl (C5_no l N (-2) μ eq24) gX5_whatIs_X5_no rfl (by decide +kernel) rfl (by decide) rfl (Nat.le_of_ble_eq_true rfl) dX5_whatIs_26 (fun H locs hW => ?_)
      exact z_iret (pc := 29) X hW (z_p1 h) (z_p2 h) dX5_whatIs_29
  · refine z_aload_n (pc := 8) X.1 hl 0 rfl rfl dX5_whatIs_8 ?_
    refine z_iconst (pc := 9) X.1 dX5_whatIs_9 ?_
    obtain ⟨q26, eq26, h⟩ := z_bind h
    refine z_callV1I (pc := 10) (n := 1) (As := [.int (iO (-1))]) (rest := []) X hW hl rfl (C5_no l N (-1) μ eq26) gX5_whatIs_X5_no rfl (by decide +kernel) rfl (by decide) rfl (Nat.le_of_ble_eq_true rfl) dX5_whatIs_10 (fun H locs hW => ?_)
    exact z_iret (pc := 13) X hW (z_p1 h) (z_p2 h) dX5_whatIs_13
-- X5_row
theorem iX5_row_1 : ∀ w ∈ wsX50, w ∈ wsX5_row := by decide +kernel
section
variable {p : Program} {l : Launch} {e : Env} {s : State} {m : MethodId} {args : Array Value} {below : List Frame} {meth : Method} {c : Code} {D : va_G} {cy : ClassId × ClassId} {ad : Nat → Nat} {A : Nat → Prop} {res : (Int × mm)}
theorem CJ5_row_24 (X : zX p s m args meth c cX5_row RX5 wsX5_row 3 D cy ad (some .int) A) (N : Nat) : ∀ (x1 : Int) (x2 : Int) (μ : mm), J5_row_24 N x1 x2 μ = some res → ∀ (H : Heap) (locs : List Loc) (ls : Array Slot), zW D cy ad A s.heap μ H locs → lv_has ls 3 [(0, .ref (ad 0)), (1, .int (iO x1)), (2, .int (iO x2))] → W p l e (rmD 1) s m args below meth c H locs 0 0 (MQ below (zQi D cy ad A res.1 res.2) args s 0 0 A) (F0 m 24 ls []) := by
  intro x1 x2 μ h H locs ls hW hl
  rw [J5_row_24] at h
  refine z_iload_n (pc := 24) X.1 hl 2 rfl rfl dX5_row_24 ?_
  obtain ⟨g3, h⟩ := z_guard h
  refine z_if_eq (pc := 25) (tgt := 34) X.1 dX5_row_25 (by decide) g3 h (fun c8 h => ?_) (fun c8 h => ?_)
  · refine z_aload_n (pc := 34) X.1 hl 0 rfl rfl dX5_row_34 ?_
    refine z_get1 (pc := 35) X.1 hW rfl iX5_row_1 6 (by decide) rfl (by decide +kernel) dX5_row_35 ?_
    refine z_aload_n (pc := 38) X.1 hl 0 rfl rfl dX5_row_38 ?_
    refine z_get1 (pc := 39) X.1 hW rfl iX5_row_1 9 (by decide) rfl (by decide +kernel) dX5_row_39 ?_
    refine z_iload_n (pc := 42) X.1 hl 1 rfl rfl dX5_row_42 ?_
    obtain ⟨g4, h⟩ := z_guard h
    obtain ⟨μ5, eμ5, h⟩ := z_bnd h
    refine z_iast (pc := 43) X.1 hW rfl ⟨g4.1, g4.2⟩ dX5_row_43 (fun H locs hW => ?_)
    replace hW : zW D cy ad A s.heap μ5 H locs := by rw [eμ5]; exact hW
    refine z_aload_n (pc := 44) X.1 hl 0 rfl rfl dX5_row_44 ?_
    refine z_dup (pc := 45) X.1 dX5_row_45 rfl ?_
    refine z_get1 (pc := 46) X.1 hW rfl iX5_row_1 9 (by decide) rfl (by decide +kernel) dX5_row_46 ?_
    refine z_iconst (pc := 49) X.1 dX5_row_49 ?_
    refine z_iadd (pc := 50) X.1 dX5_row_50 ?_
    obtain ⟨μ6, eμ6, h⟩ := z_bnd h
    refine z_put1_9 (pc := 51) X.1 hW rfl iX5_row_1 (by decide +kernel) dX5_row_51 (fun H locs hW => ?_)
    rw [← eμ6] at hW
    refine z_aload_n (pc := 54) X.1 hl 0 rfl rfl dX5_row_54 ?_
    refine z_get1 (pc := 55) X.1 hW rfl iX5_row_1 9 (by decide) rfl (by decide +kernel) dX5_row_55 ?_
    exact z_iret (pc := 58) X hW (z_p1 h) (z_p2 h) dX5_row_58
  · refine z_aload_n (pc := 28) X.1 hl 0 rfl rfl dX5_row_28 ?_
    refine z_iload_n (pc := 29) X.1 hl 2 rfl rfl dX5_row_29 ?_
    obtain ⟨q7, eq7, h⟩ := z_bind h
    refine z_callV1I (pc := 30) (n := 1) (As := [.int (iO x2)]) (rest := []) X hW hl rfl (C5_no l N x2 μ eq7) gX5_row_X5_no rfl (by decide +kernel) rfl (by decide) rfl (Nat.le_of_ble_eq_true rfl) dX5_row_30 (fun H locs hW => ?_)
    exact z_iret (pc := 33) X hW (z_p1 h) (z_p2 h) dX5_row_33
end
theorem C5_row (l : Launch) {D : va_G} {cy : ClassId × ClassId} {ad : Nat → Nat} (N : Nat) (a0 : Int) (μ : mm) {res : (Int × mm)} (h : M5_row N a0 μ = some res) : zI l yX5_row wsX5_row 1 D cy ad [.ref (ad 0), .int (iO a0)] μ res.1 res.2 := by
  refine zI.of RX5 rfl (by decide) rfl (Nat.le_of_ble_eq_true rfl) ?_
  intro p e s m args below meth c A X hW ls hl
  have hl : lv_has ls 3 [(0, .ref (ad 0)), (1, .int (iO a0))] := hl
  unfold M5_row at h
  refine z_iload_n (pc := 0) X.1 hl 1 rfl rfl dX5_row_0 ?_
  refine z_iconst (pc := 1) X.1 dX5_row_1 ?_
  refine z_bipush (pc := 2) X.1 dX5_row_2 (by decide) ?_
  obtain ⟨q1, eq1, h⟩ := z_bind h
  refine z_callSI (pc := 4) (n := 3) (As := [.int (iO a0), .int (iO 0), .int (iO 99)]) (rest := []) X hW hl (C5_wrongBy l N a0 0 99 μ eq1) gX5_row_X5_wrongBy rfl (by decide +kernel) rfl (by decide) rfl (Nat.le_of_ble_eq_true rfl) dX5_row_4 (fun H locs hW => ?_)
  refine z_istore_n (pc := 7) (i := 2) X.1 [(2, .int (iO q1)), (0, .ref (ad 0)), (1, .int (iO a0))] hl rfl rfl (by decide) rfl dX5_row_7 (fun ls hl => ?_)
  refine z_iload_n (pc := 8) X.1 hl 0 rfl rfl dX5_row_8 ?_
  obtain ⟨g2, h⟩ := z_guard h
  refine z_if_ne (pc := 9) (tgt := 24) X.1 dX5_row_9 (by decide) g2 h (fun c11 h => ?_) (fun c11 h => ?_)
  · exact CJ5_row_24 X N a0 q1 μ h _ _ ls hW (lv_sub hl [1, 2, 0] rfl)
  · refine z_aload_n (pc := 12) X.1 hl 1 rfl rfl dX5_row_12 ?_
    refine z_get1 (pc := 13) X.1 hW rfl iX5_row_1 9 (by decide) rfl (by decide +kernel) dX5_row_13 ?_
    refine z_bipush (pc := 16) X.1 dX5_row_16 (by decide) ?_
    obtain ⟨g9, h⟩ := z_guard h
    refine z_icmp_ne (pc := 18) (tgt := 24) X.1 dX5_row_18 (by decide) ⟨g9, (by decide)⟩ h (fun c10 h => ?_) (fun c10 h => ?_)
    · exact CJ5_row_24 X N a0 q1 μ h _ _ ls hW (lv_sub hl [1, 2, 0] rfl)
    · refine z_bipush (pc := 21) X.1 dX5_row_21 (by decide) ?_
      refine z_istore_n (pc := 23) (i := 2) X.1 [(2, .int (iO (-6))), (0, .ref (ad 0)), (1, .int (iO a0))] hl rfl rfl (by decide) rfl dX5_row_23 (fun ls hl => ?_)
      exact CJ5_row_24 X N a0 (-6) μ h _ _ ls hW (lv_sub hl [1, 2, 0] rfl)
