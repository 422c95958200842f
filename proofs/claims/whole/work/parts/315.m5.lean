-- X4_serve
theorem iX4_serve_3 : ∀ w ∈ wsX10, w ∈ wsX4_serve := by decide +kernel
theorem iX4_serve_7 : ∀ w ∈ wsX40, w ∈ wsX4_serve := by decide +kernel
section
variable {p : Program} {l : Launch} {e : Env} {s : State} {m : MethodId} {args : Array Value} {below : List Frame} {meth : Method} {c : Code} {D : va_G} {cy : ClassId × ClassId} {ad : Nat → Nat} {A : Nat → Prop} {res : (Int × mm)}
theorem CJ4_serve_89 (X : zX p s m args meth c cX4_serve RX4 wsX4_serve 7 D cy ad (some .int) A) (N : Nat) (rec24 : Int → Int → Int → Int → mm → Option (Int × mm)) (hrec24 : ∀ (x1 : Int) (x3 : Int) (x4 : Int) (x5 : Int) (μ : mm), rec24 x1 x3 x4 x5 μ = some res → ∀ (H : Heap) (locs : List Loc) (ls : Array Slot), zW D cy ad A s.heap μ H locs → lv_has ls 7 [(0, .ref (ad 9)), (1, .int (iO x1)), (3, .int (iO x3)), (4, .int (iO x4)), (5, .int (iO x5))] → W p l e (rmD 4) s m args below meth c H locs 0 0 (MQ below (zQi D cy ad A res.1 res.2) args s 0 0 A) (F0 m 24 ls [])) : ∀ (x1 : Int) (x3 : Int) (x4 : Int) (x5 : Int) (μ : mm), J4_serve_89 N rec24 x1 x3 x4 x5 μ = some res → ∀ (H : Heap) (locs : List Loc) (ls : Array Slot), zW D cy ad A s.heap μ H locs → lv_has ls 7 [(0, .ref (ad 9)), (1, .int (iO x1)), (3, .int (iO x3)), (4, .int (iO x4)), (5, .int (iO x5))] → W p l e (rmD 4) s m args below meth c H locs 0 0 (MQ below (zQi D cy ad A res.1 res.2) args s 0 0 A) (F0 m 89 ls []) := by
  intro x1 x3 x4 x5 μ h H locs ls hW hl
  rw [J4_serve_89] at h
  refine z_iinc (pc := 89) (i := 5) X.1 [(5, .int (iO (x5 + 1))), (0, .ref (ad 9)), (1, .int (iO x1)), (3, .int (iO x3)), (4, .int (iO x4))] hl 4 rfl rfl (by decide) rfl dX4_serve_89 (fun ls hl => ?_)
  refine z_goto (pc := 92) (tgt := 24) X.1 dX4_serve_92 (by decide) ?_
  exact hrec24 x1 x3 x4 (x5 + 1) μ h _ _ ls hW (lv_sub hl [1, 2, 3, 4, 0] rfl)
theorem CL4_serve_24 (X : zX p s m args meth c cX4_serve RX4 wsX4_serve 7 D cy ad (some .int) A) (N : Nat) : ∀ (k : Nat) (x1 : Int) (x3 : Int) (x4 : Int) (x5 : Int) (μ : mm), L4_serve_24 N k x1 x3 x4 x5 μ = some res → ∀ (H : Heap) (locs : List Loc) (ls : Array Slot), zW D cy ad A s.heap μ H locs → lv_has ls 7 [(0, .ref (ad 9)), (1, .int (iO x1)), (3, .int (iO x3)), (4, .int (iO x4)), (5, .int (iO x5))] → W p l e (rmD 4) s m args below meth c H locs 0 0 (MQ below (zQi D cy ad A res.1 res.2) args s 0 0 A) (F0 m 24 ls []) := by
  intro k
  induction k with
  | zero =>
    intro x1 x3 x4 x5 μ h H locs ls hW hl
    exact absurd h (by rw [L4_serve_24]; exact fun z => by cases z)
  | succ k ih =>
    intro x1 x3 x4 x5 μ h H locs ls hW hl
    rw [L4_serve_24] at h
    refine z_iload (pc := 24) X.1 hl 4 rfl dX4_serve_24 ?_
    refine z_iconst (pc := 26) X.1 dX4_serve_26 ?_
    refine z_aload_n (pc := 27) X.1 hl 0 rfl rfl dX4_serve_27 ?_
    refine z_get7 (pc := 28) X.1 hW rfl iX4_serve_7 0 (by decide) rfl (by decide +kernel) dX4_serve_28 ?_
    refine z_get3 (pc := 31) X.1 hW rfl iX4_serve_3 2 (by decide) rfl (by decide +kernel) dX4_serve_31 ?_
    obtain ⟨g3, h⟩ := z_guard h
    refine z_ishl (pc := 34) X.1 dX4_serve_34 ⟨g3.1, g3.2⟩ ?_
    obtain ⟨g4, h⟩ := z_guard h
    refine z_icmp_ge (pc := 35) (tgt := 95) X.1 dX4_serve_35 (by decide) ⟨g4.1, g4.2⟩ h (fun c19 h => ?_) (fun c19 h => ?_)
    · refine z_iload_n (pc := 95) X.1 hl 1 rfl rfl dX4_serve_95 ?_
      obtain ⟨g5, h⟩ := z_guard h
      refine z_if_ne (pc := 96) (tgt := 101) X.1 dX4_serve_96 (by decide) g5 h (fun c9 h => ?_) (fun c9 h => ?_)
      · refine z_iload_n (pc := 101) X.1 hl 1 rfl rfl dX4_serve_101 ?_
        refine z_iconst (pc := 102) X.1 dX4_serve_102 ?_
        obtain ⟨g6, h⟩ := z_guard h
        refine z_icmp_ne (pc := 103) (tgt := 111) X.1 dX4_serve_103 (by decide) ⟨g6, (by decide)⟩ h (fun c8 h => ?_) (fun c8 h => ?_)
        · refine z_aload_n (pc := 111) X.1 hl 0 rfl rfl dX4_serve_111 ?_
          refine z_get7 (pc := 112) X.1 hW rfl iX4_serve_7 0 (by decide) rfl (by decide +kernel) dX4_serve_112 ?_
          refine z_get3 (pc := 115) X.1 hW rfl iX4_serve_3 3 (by decide) rfl (by decide +kernel) dX4_serve_115 ?_
          refine z_aload_n (pc := 118) X.1 hl 0 rfl rfl dX4_serve_118 ?_
          refine z_get7 (pc := 119) X.1 hW rfl iX4_serve_7 0 (by decide) rfl (by decide +kernel) dX4_serve_119 ?_
          refine z_iload (pc := 122) X.1 hl 3 rfl dX4_serve_122 ?_
          obtain ⟨q7, eq7, h⟩ := z_bind h
          refine z_callV3I (pc := 124) (n := 1) (As := [.int (iO x4)]) (rest := [.int (iO (μ 10 3))]) X hW hl rfl (C1_lackOf l N 10 x4 rfl μ eq7) gX4_serve_X1_lackOf rfl (by decide +kernel) rfl (by decide) rfl (Nat.le_of_ble_eq_true rfl) dX4_serve_124 (fun H locs hW => ?_)
          refine z_isub (pc := 127) X.1 dX4_serve_127 ?_
          exact z_iret (pc := 128) X hW (z_p1 h) (z_p2 h) dX4_serve_128
        · refine z_iload (pc := 106) X.1 hl 3 rfl dX4_serve_106 ?_
          refine z_goto (pc := 108) (tgt := 128) X.1 dX4_serve_108 (by decide) ?_
          exact z_iret (pc := 128) X hW (z_p1 h) (z_p2 h) dX4_serve_128
      · refine z_iload_n (pc := 99) X.1 hl 2 rfl rfl dX4_serve_99 ?_
        exact z_iret (pc := 100) X hW (z_p1 h) (z_p2 h) dX4_serve_100
    · refine z_iload (pc := 38) X.1 hl 4 rfl dX4_serve_38 ?_
      obtain ⟨q10, eq10, h⟩ := z_bind h
      refine z_callSI (pc := 40) (n := 1) (As := [.int (iO x5)]) (rest := []) X hW hl (C6_bitCount_0f7a4 l N x5 μ eq10) gX4_serve_J6_bitCount_0f7a4 rfl (by decide +kernel) rfl (by decide) rfl (Nat.le_of_ble_eq_true rfl) dX4_serve_40 (fun H locs hW => ?_)
      refine z_istore (pc := 43) (i := 6) X.1 [(6, .int (iO q10)), (0, .ref (ad 9)), (1, .int (iO x1)), (3, .int (iO x3)), (4, .int (iO x4)), (5, .int (iO x5))] hl rfl (by decide) rfl dX4_serve_43 (fun ls hl => ?_)
      refine z_iload (pc := 45) X.1 hl 0 rfl dX4_serve_45 ?_
      refine z_iload_n (pc := 47) X.1 hl 3 rfl rfl dX4_serve_47 ?_
      obtain ⟨g11, h⟩ := z_guard h
      refine z_icmp_le (pc := 48) (tgt := 89) X.1 dX4_serve_48 (by decide) ⟨g11.1, g11.2⟩ h (fun c18 h => ?_) (fun c18 h => ?_)
      · exact CJ4_serve_89 X N (L4_serve_24 N k) ih x1 x3 x4 x5 μ h _ _ ls hW (lv_sub hl [1, 2, 3, 4, 5] rfl)
      · refine z_aload_n (pc := 51) X.1 hl 1 rfl rfl dX4_serve_51 ?_
        refine z_get7 (pc := 52) X.1 hW rfl iX4_serve_7 0 (by decide) rfl (by decide +kernel) dX4_serve_52 ?_
        refine z_iload (pc := 55) X.1 hl 5 rfl dX4_serve_55 ?_
        obtain ⟨q12, eq12, h⟩ := z_bind h
        refine z_callV3I (pc := 57) (n := 1) (As := [.int (iO x5)]) (rest := []) X hW hl rfl (C1_lackAll l N 10 x5 rfl μ eq12) gX4_serve_X1_lackAll rfl (by decide +kernel) rfl (by decide) rfl (Nat.le_of_ble_eq_true rfl) dX4_serve_57 (fun H locs hW => ?_)
        obtain ⟨g13, h⟩ := z_guard h
        refine z_if_eq (pc := 60) (tgt := 89) X.1 dX4_serve_60 (by decide) g13 h (fun c17 h => ?_) (fun c17 h => ?_)
        · exact CJ4_serve_89 X N (L4_serve_24 N k) ih x1 x3 x4 x5 μ h _ _ ls hW (lv_sub hl [1, 2, 3, 4, 5] rfl)
        · refine z_aload_n (pc := 63) X.1 hl 1 rfl rfl dX4_serve_63 ?_
          refine z_get7 (pc := 64) X.1 hW rfl iX4_serve_7 0 (by decide) rfl (by decide +kernel) dX4_serve_64 ?_
          refine z_iload (pc := 67) X.1 hl 5 rfl dX4_serve_67 ?_
          obtain ⟨q14, eq14, h⟩ := z_bind h
          refine z_callV3I (pc := 69) (n := 1) (As := [.int (iO x5)]) (rest := []) X hW hl rfl (C1_lackOf l N 10 x5 rfl μ eq14) gX4_serve_X1_lackOf rfl (by decide +kernel) rfl (by decide) rfl (Nat.le_of_ble_eq_true rfl) dX4_serve_69 (fun H locs hW => ?_)
          refine z_aload_n (pc := 72) X.1 hl 1 rfl rfl dX4_serve_72 ?_
          refine z_get7 (pc := 73) X.1 hW rfl iX4_serve_7 0 (by decide) rfl (by decide +kernel) dX4_serve_73 ?_
          refine z_get3 (pc := 76) X.1 hW rfl iX4_serve_3 3 (by decide) rfl (by decide +kernel) dX4_serve_76 ?_
          obtain ⟨g15, h⟩ := z_guard h
          refine z_icmp_gt (pc := 79) (tgt := 89) X.1 dX4_serve_79 (by decide) ⟨g15.1, g15.2⟩ h (fun c16 h => ?_) (fun c16 h => ?_)
          · exact CJ4_serve_89 X N (L4_serve_24 N k) ih x1 x3 x4 x5 μ h _ _ ls hW (lv_sub hl [1, 2, 3, 4, 5] rfl)
          · refine z_iload (pc := 82) X.1 hl 0 rfl dX4_serve_82 ?_
            refine z_istore_n (pc := 84) (i := 3) X.1 [(3, .int (iO q10)), (6, .int (iO q10)), (0, .ref (ad 9)), (1, .int (iO x1)), (4, .int (iO x4)), (5, .int (iO x5))] hl rfl rfl (by decide) rfl dX4_serve_84 (fun ls hl => ?_)
            refine z_iload (pc := 85) X.1 hl 5 rfl dX4_serve_85 ?_
            refine z_istore (pc := 87) (i := 4) X.1 [(4, .int (iO x5)), (3, .int (iO q10)), (6, .int (iO q10)), (0, .ref (ad 9)), (1, .int (iO x1)), (5, .int (iO x5))] hl rfl (by decide) rfl dX4_serve_87 (fun ls hl => ?_)
            exact CJ4_serve_89 X N (L4_serve_24 N k) ih x1 q10 x5 x5 μ h _ _ ls hW (lv_sub hl [3, 4, 1, 0, 5] rfl)
end
theorem C4_serve (l : Launch) {D : va_G} {cy : ClassId × ClassId} {ad : Nat → Nat} (N : Nat) (a0 : Int) (μ : mm) {res : (Int × mm)} (h : M4_serve N a0 μ = some res) : zI l yX4_serve wsX4_serve 4 D cy ad [.ref (ad 9), .int (iO a0)] μ res.1 res.2 := by
  refine zI.of RX4 rfl (by decide) rfl (Nat.le_of_ble_eq_true rfl) ?_
  intro p e s m args below meth c A X hW ls hl
  have hl : lv_has ls 7 [(0, .ref (ad 9)), (1, .int (iO a0))] := hl
  unfold M4_serve at h
  refine z_iload_n (pc := 0) X.1 hl 1 rfl rfl dX4_serve_0 ?_
  refine z_iconst (pc := 1) X.1 dX4_serve_1 ?_
  obtain ⟨q1, eq1, h⟩ := z_bind h
  refine z_callSI (pc := 2) (n := 2) (As := [.int (iO a0), .int (iO 2)]) (rest := []) X hW hl (C4_other l N a0 2 μ eq1) gX4_serve_X4_other rfl (by decide +kernel) rfl (by decide) rfl (Nat.le_of_ble_eq_true rfl) dX4_serve_2 (fun H locs hW => ?_)
  refine z_istore_n (pc := 5) (i := 2) X.1 [(2, .int (iO q1)), (0, .ref (ad 9)), (1, .int (iO a0))] hl rfl rfl (by decide) rfl dX4_serve_5 (fun ls hl => ?_)
  refine z_iload_n (pc := 6) X.1 hl 0 rfl rfl dX4_serve_6 ?_
  obtain ⟨g2, h⟩ := z_guard h
  refine z_if_eq (pc := 7) (tgt := 16) X.1 dX4_serve_7 (by decide) g2 h (fun c21 h => ?_) (fun c21 h => ?_)
  · refine z_iconst (pc := 16) X.1 dX4_serve_16 ?_
    refine z_istore_n (pc := 17) (i := 3) X.1 [(3, .int (iO 0)), (2, .int (iO q1)), (0, .ref (ad 9)), (1, .int (iO a0))] hl rfl rfl (by decide) rfl dX4_serve_17 (fun ls hl => ?_)
    refine z_iconst (pc := 18) X.1 dX4_serve_18 ?_
    refine z_istore (pc := 19) (i := 4) X.1 [(4, .int (iO 0)), (3, .int (iO 0)), (2, .int (iO q1)), (0, .ref (ad 9)), (1, .int (iO a0))] hl rfl (by decide) rfl dX4_serve_19 (fun ls hl => ?_)
    refine z_iconst (pc := 21) X.1 dX4_serve_21 ?_
    refine z_istore (pc := 22) (i := 5) X.1 [(5, .int (iO 1)), (4, .int (iO 0)), (3, .int (iO 0)), (2, .int (iO q1)), (0, .ref (ad 9)), (1, .int (iO a0))] hl rfl (by decide) rfl dX4_serve_22 (fun ls hl => ?_)
    exact CL4_serve_24 X N N a0 0 0 1 μ h _ _ ls hW (lv_sub hl [4, 5, 2, 1, 0] rfl)
  · refine z_aload_n (pc := 10) X.1 hl 1 rfl rfl dX4_serve_10 ?_
    refine z_iload_n (pc := 11) X.1 hl 0 rfl rfl dX4_serve_11 ?_
    obtain ⟨q20, eq20, h⟩ := z_bind h
    refine z_callV7I (pc := 12) (n := 1) (As := [.int (iO q1)]) (rest := []) X hW hl rfl (C4_refused l N q1 μ eq20) gX4_serve_X4_refused rfl (by decide +kernel) rfl (by decide) rfl (Nat.le_of_ble_eq_true rfl) dX4_serve_12 (fun H locs hW => ?_)
    exact z_iret (pc := 15) X hW (z_p1 h) (z_p2 h) dX4_serve_15
-- X4_throughMore
theorem iX4_throughMore_5 : ∀ w ∈ wsX20, w ∈ wsX4_throughMore := by decide +kernel
theorem iX4_throughMore_7 : ∀ w ∈ wsX40, w ∈ wsX4_throughMore := by decide +kernel
theorem C4_throughMore (l : Launch) {D : va_G} {cy : ClassId × ClassId} {ad : Nat → Nat} (N : Nat) (a0 : Int) (a1 : Int) (a2 : Int) (μ : mm) {res : (Int × mm)} (h : M4_throughMore N a0 a1 a2 μ = some res) : zI l yX4_throughMore wsX4_throughMore 3 D cy ad [.ref (ad 9), .int (iO a0), .int (iO a1), .int (iO a2)] μ res.1 res.2 := by
  refine zI.of RX4 rfl (by decide) rfl (Nat.le_of_ble_eq_true rfl) ?_
  intro p e s m args below meth c A X hW ls hl
  have hl : lv_has ls 4 [(0, .ref (ad 9)), (1, .int (iO a0)), (2, .int (iO a1)), (3, .int (iO a2))] := hl
  unfold M4_throughMore at h
  refine z_aload_n (pc := 0) X.1 hl 0 rfl rfl dX4_throughMore_0 ?_
  refine z_iload_n (pc := 1) X.1 hl 1 rfl rfl dX4_throughMore_1 ?_
  refine z_iload_n (pc := 2) X.1 hl 2 rfl rfl dX4_throughMore_2 ?_
  refine z_iload_n (pc := 3) X.1 hl 3 rfl rfl dX4_throughMore_3 ?_
  obtain ⟨q1, eq1, h⟩ := z_bind h
  obtain ⟨g2, h⟩ := z_guard h
  refine z_callV7R (pc := 4) (n := 3) (As := [.int (iO a0), .int (iO a1), .int (iO a2)]) (rest := []) X hW hl rfl (C4_thought l N a0 a1 a2 μ eq1) gX4_throughMore_X4_thought rfl (by decide +kernel) rfl (by decide) rfl (Nat.le_of_ble_eq_true rfl) dX4_throughMore_4 (fun H locs hW => ?_)
  refine z_get5 (pc := 7) X.1 hW g2 iX4_throughMore_5 4 (by decide) rfl (by decide +kernel) dX4_throughMore_7 ?_
  refine z_aload_n (pc := 10) X.1 hl 0 rfl rfl dX4_throughMore_10 ?_
  refine z_get7 (pc := 11) X.1 hW rfl iX4_throughMore_7 0 (by decide) rfl (by decide +kernel) dX4_throughMore_11 ?_
  refine z_iload_n (pc := 14) X.1 hl 1 rfl rfl dX4_throughMore_14 ?_
  obtain ⟨q3, eq3, h⟩ := z_bind h
  obtain ⟨g4, h⟩ := z_guard h
  refine z_callV3R (pc := 15) (n := 1) (As := [.int (iO a0)]) (rest := [.int (iO (q1.2 q1.1 4))]) X hW hl rfl (C1_at l N 10 a0 rfl q1.2 eq3) gX4_throughMore_X1_at rfl (by decide +kernel) rfl (by decide) rfl (Nat.le_of_ble_eq_true rfl) dX4_throughMore_15 (fun H locs hW => ?_)
  refine z_get5 (pc := 18) X.1 hW g4 iX4_throughMore_5 4 (by decide) rfl (by decide +kernel) dX4_throughMore_18 ?_
  refine z_isub (pc := 21) X.1 dX4_throughMore_21 ?_
  exact z_iret (pc := 22) X hW (z_p1 h) (z_p2 h) dX4_throughMore_22
-- X4_weigh
theorem iX4_weigh_3 : ∀ w ∈ wsX10, w ∈ wsX4_weigh := by decide +kernel
theorem iX4_weigh_5 : ∀ w ∈ wsX20, w ∈ wsX4_weigh := by decide +kernel
theorem iX4_weigh_7 : ∀ w ∈ wsX40, w ∈ wsX4_weigh := by decide +kernel
section
variable {p : Program} {l : Launch} {e : Env} {s : State} {m : MethodId} {args : Array Value} {below : List Frame} {meth : Method} {c : Code} {D : va_G} {cy : ClassId × ClassId} {ad : Nat → Nat} {A : Nat → Prop} {res : mm}
theorem CL4_weigh_2 (X : zX p s m args meth c cX4_weigh RX4 wsX4_weigh 5 D cy ad none A) (N : Nat) : ∀ (k : Nat) (x1 : Int) (x2 : Int) (μ : mm), L4_weigh_2 N k x1 x2 μ = some res → ∀ (H : Heap) (locs : List Loc) (ls : Array Slot), zW D cy ad A s.heap μ H locs → lv_has ls 5 [(0, .ref (ad 9)), (1, .int (iO x1)), (2, .int (iO x2))] → W p l e (rmD 4) s m args below meth c H locs 0 0 (MQ below (zQv D cy ad A res) args s 0 0 A) (F0 m 2 ls []) := by
  intro k
  induction k with
  | zero =>
    intro x1 x2 μ h H locs ls hW hl
    exact absurd h (by rw [L4_weigh_2]; exact fun z => by cases z)
  | succ k ih =>
    intro x1 x2 μ h H locs ls hW hl
    rw [L4_weigh_2] at h
    refine z_iload_n (pc := 2) X.1 hl 2 rfl rfl dX4_weigh_2 ?_
    refine z_aload_n (pc := 3) X.1 hl 0 rfl rfl dX4_weigh_3 ?_
    refine z_get7 (pc := 4) X.1 hW rfl iX4_weigh_7 0 (by decide) rfl (by decide +kernel) dX4_weigh_4 ?_
    refine z_get3 (pc := 7) X.1 hW rfl iX4_weigh_3 2 (by decide) rfl (by decide +kernel) dX4_weigh_7 ?_
    obtain ⟨g1, h⟩ := z_guard h
    refine z_icmp_ge (pc := 10) (tgt := 79) X.1 dX4_weigh_10 (by decide) ⟨g1.1, g1.2⟩ h (fun c16 h => ?_) (fun c16 h => ?_)
    · exact z_vret (pc := 79) X hW (Option.some.inj h) dX4_weigh_79
    · refine z_iload_n (pc := 13) X.1 hl 2 rfl rfl dX4_weigh_13 ?_
      refine z_bipush (pc := 14) X.1 dX4_weigh_14 (by decide) ?_
      obtain ⟨g2, h⟩ := z_guard h
      refine z_icmp_ge (pc := 16) (tgt := 79) X.1 dX4_weigh_16 (by decide) ⟨g2, (by decide)⟩ h (fun c15 h => ?_) (fun c15 h => ?_)
      · exact z_vret (pc := 79) X hW (Option.some.inj h) dX4_weigh_79
      · refine z_aload_n (pc := 19) X.1 hl 0 rfl rfl dX4_weigh_19 ?_
        refine z_get7 (pc := 20) X.1 hW rfl iX4_weigh_7 0 (by decide) rfl (by decide +kernel) dX4_weigh_20 ?_
        refine z_iload_n (pc := 23) X.1 hl 2 rfl rfl dX4_weigh_23 ?_
        obtain ⟨q3, eq3, h⟩ := z_bind h
        obtain ⟨g4, h⟩ := z_guard h
        refine z_callV3R (pc := 24) (n := 1) (As := [.int (iO x2)]) (rest := []) X hW hl rfl (C1_at l N 10 x2 rfl μ eq3) gX4_weigh_X1_at rfl (by decide +kernel) rfl (by decide) rfl (Nat.le_of_ble_eq_true rfl) dX4_weigh_24 (fun H locs hW => ?_)
        refine z_get5 (pc := 27) X.1 hW g4 iX4_weigh_5 2 (by decide) rfl (by decide +kernel) dX4_weigh_27 ?_
        obtain ⟨w5, ew5, h⟩ := z_bnd h
        refine z_istore_n (pc := 30) (i := 3) X.1 [(3, .int (iO w5)), (0, .ref (ad 9)), (1, .int (iO x1)), (2, .int (iO x2))] hl ew5 rfl (by decide) rfl dX4_weigh_30 (fun ls hl => ?_)
        refine z_aload_n (pc := 31) X.1 hl 1 rfl rfl dX4_weigh_31 ?_
        refine z_get7 (pc := 32) X.1 hW rfl iX4_weigh_7 0 (by decide) rfl (by decide +kernel) dX4_weigh_32 ?_
        refine z_iload_n (pc := 35) X.1 hl 3 rfl rfl dX4_weigh_35 ?_
        obtain ⟨q6, eq6, h⟩ := z_bind h
        obtain ⟨g7, h⟩ := z_guard h
        refine z_callV3R (pc := 36) (n := 1) (As := [.int (iO x2)]) (rest := []) X hW hl rfl (C1_at l N 10 x2 rfl μ eq6) gX4_weigh_X1_at rfl (by decide +kernel) rfl (by decide) rfl (Nat.le_of_ble_eq_true rfl) dX4_weigh_36 (fun H locs hW => ?_)
        obtain ⟨q8, eq8, h⟩ := z_bind h
        refine z_callV5I (pc := 39) (n := 0) (As := []) (rest := []) X hW hl g7 (C2_lacking l N q6 g7 μ eq8) gX4_weigh_X2_lacking rfl (by decide +kernel) rfl (by decide) rfl (Nat.le_of_ble_eq_true rfl) dX4_weigh_39 (fun H locs hW => ?_)
        refine z_istore (pc := 42) (i := 4) X.1 [(4, .int (iO q8)), (3, .int (iO w5)), (0, .ref (ad 9)), (1, .int (iO x1)), (2, .int (iO x2))] hl rfl (by decide) rfl dX4_weigh_42 (fun ls hl => ?_)
        refine z_aload_n (pc := 44) X.1 hl 2 rfl rfl dX4_weigh_44 ?_
        refine z_get7 (pc := 45) X.1 hW rfl iX4_weigh_7 7 (by decide) rfl (by decide +kernel) dX4_weigh_45 ?_
        refine z_iload_n (pc := 48) X.1 hl 4 rfl rfl dX4_weigh_48 ?_
        refine z_aload_n (pc := 49) X.1 hl 2 rfl rfl dX4_weigh_49 ?_
        refine z_iload_n (pc := 50) X.1 hl 4 rfl rfl dX4_weigh_50 ?_
        refine z_iload_n (pc := 51) X.1 hl 1 rfl rfl dX4_weigh_51 ?_
        refine z_iload_n (pc := 52) X.1 hl 3 rfl rfl dX4_weigh_52 ?_
        obtain ⟨q9, eq9, h⟩ := z_bind h
        refine z_callV7I (pc := 53) (n := 3) (As := [.int (iO x2), .int (iO w5), .int (iO x1)]) (rest := [.int (iO x2), .ref (ad 48)]) X hW hl rfl (C4_throughMore l N x2 w5 x1 μ eq9) gX4_weigh_X4_throughMore rfl (by decide +kernel) rfl (by decide) rfl (Nat.le_of_ble_eq_true rfl) dX4_weigh_53 (fun H locs hW => ?_)
        obtain ⟨g10, h⟩ := z_guard h
        obtain ⟨μ11, eμ11, h⟩ := z_bnd h
        refine z_iast (pc := 56) X.1 hW rfl ⟨g10.1, g10.2⟩ dX4_weigh_56 (fun H locs hW => ?_)
        replace hW : zW D cy ad A s.heap μ11 H locs := by rw [eμ11]; exact hW
        refine z_aload_n (pc := 57) X.1 hl 2 rfl rfl dX4_weigh_57 ?_
        refine z_get7 (pc := 58) X.1 hW rfl iX4_weigh_7 8 (by decide) rfl (by decide +kernel) dX4_weigh_58 ?_
        refine z_iload_n (pc := 61) X.1 hl 4 rfl rfl dX4_weigh_61 ?_
        refine z_aload_n (pc := 62) X.1 hl 2 rfl rfl dX4_weigh_62 ?_
        refine z_iload_n (pc := 63) X.1 hl 4 rfl rfl dX4_weigh_63 ?_
        refine z_iload_n (pc := 64) X.1 hl 1 rfl rfl dX4_weigh_64 ?_
        refine z_iload (pc := 65) X.1 hl 0 rfl dX4_weigh_65 ?_
        refine z_iadd (pc := 67) X.1 dX4_weigh_67 ?_
        refine z_iload_n (pc := 68) X.1 hl 3 rfl rfl dX4_weigh_68 ?_
        obtain ⟨q12, eq12, h⟩ := z_bind h
        refine z_callV7I (pc := 69) (n := 3) (As := [.int (iO x2), .int (iO (w5 + q8)), .int (iO x1)]) (rest := [.int (iO x2), .ref (ad 49)]) X hW hl rfl (C4_throughMore l N x2 (w5 + q8) x1 μ11 eq12) gX4_weigh_X4_throughMore rfl (by decide +kernel) rfl (by decide) rfl (Nat.le_of_ble_eq_true rfl) dX4_weigh_69 (fun H locs hW => ?_)
        obtain ⟨g13, h⟩ := z_guard h
        obtain ⟨μ14, eμ14, h⟩ := z_bnd h
        refine z_iast (pc := 72) X.1 hW rfl ⟨g13.1, g13.2⟩ dX4_weigh_72 (fun H locs hW => ?_)
        replace hW : zW D cy ad A s.heap μ14 H locs := by rw [eμ14]; exact hW
        refine z_iinc (pc := 73) (i := 2) X.1 [(2, .int (iO (x2 + 1))), (4, .int (iO q8)), (3, .int (iO w5)), (0, .ref (ad 9)), (1, .int (iO x1))] hl 4 rfl rfl (by decide) rfl dX4_weigh_73 (fun ls hl => ?_)
        refine z_goto (pc := 76) (tgt := 2) X.1 dX4_weigh_76 (by decide) ?_
        exact ih x1 (x2 + 1) μ14 h _ _ ls hW (lv_sub hl [3, 4, 0] rfl)
end
theorem C4_weigh (l : Launch) {D : va_G} {cy : ClassId × ClassId} {ad : Nat → Nat} (N : Nat) (a0 : Int) (μ : mm) {res : mm} (h : M4_weigh N a0 μ = some res) : zV l yX4_weigh wsX4_weigh 4 D cy ad [.ref (ad 9), .int (iO a0)] μ res := by
  refine zV.of RX4 rfl (by decide) rfl (Nat.le_of_ble_eq_true rfl) ?_
  intro p e s m args below meth c A X hW ls hl
  have hl : lv_has ls 5 [(0, .ref (ad 9)), (1, .int (iO a0))] := hl
  unfold M4_weigh at h
  refine z_iconst (pc := 0) X.1 dX4_weigh_0 ?_
  refine z_istore_n (pc := 1) (i := 2) X.1 [(2, .int (iO 0)), (0, .ref (ad 9)), (1, .int (iO a0))] hl rfl rfl (by decide) rfl dX4_weigh_1 (fun ls hl => ?_)
  exact CL4_weigh_2 X N N a0 0 μ h _ _ ls hW (lv_sub hl [1, 2, 0] rfl)
-- X4_weighed
theorem iX4_weighed_7 : ∀ w ∈ wsX40, w ∈ wsX4_weighed := by decide +kernel
theorem C4_weighed (l : Launch) {D : va_G} {cy : ClassId × ClassId} {ad : Nat → Nat} (N : Nat) (a0 : Int) (a1 : Int) (μ0 : mm) {res : Int} (h : M4_weighed N a0 a1 μ0 = some res) : zI l yX4_weighed wsX4_weighed 0 D cy ad [.ref (ad 9), .int (iO a0), .int (iO a1)] μ0 res μ0 := by
  refine zI.of RX4 rfl (by decide) rfl (Nat.le_of_ble_eq_true rfl) ?_
  intro p e s m args below meth c A X hW ls hl
  have hl : lv_has ls 3 [(0, .ref (ad 9)), (1, .int (iO a0)), (2, .int (iO a1))] := hl
  unfold M4_weighed at h
  refine z_iload_n (pc := 0) X.1 hl 1 rfl rfl dX4_weighed_0 ?_
  obtain ⟨g1, h⟩ := z_guard h
  refine z_if_lt (pc := 1) (tgt := 10) X.1 dX4_weighed_1 (by decide) g1 h (fun c8 h => ?_) (fun c8 h => ?_)
  · refine z_iconst (pc := 10) X.1 dX4_weighed_10 ?_
    exact z_iret (pc := 11) X hW (Option.some.inj h) rfl dX4_weighed_11
  · refine z_iload_n (pc := 4) X.1 hl 1 rfl rfl dX4_weighed_4 ?_
    refine z_bipush (pc := 5) X.1 dX4_weighed_5 (by decide) ?_
    obtain ⟨g2, h⟩ := z_guard h
    refine z_icmp_lt (pc := 7) (tgt := 12) X.1 dX4_weighed_7 (by decide) ⟨g2, (by decide)⟩ h (fun c7 h => ?_) (fun c7 h => ?_)
    · refine z_iload_n (pc := 12) X.1 hl 2 rfl rfl dX4_weighed_12 ?_
      obtain ⟨g3, h⟩ := z_guard h
      refine z_if_eq (pc := 13) (tgt := 25) X.1 dX4_weighed_13 (by decide) g3 h (fun c6 h => ?_) (fun c6 h => ?_)
      · refine z_aload_n (pc := 25) X.1 hl 0 rfl rfl dX4_weighed_25 ?_
        refine z_get7 (pc := 26) X.1 hW rfl iX4_weighed_7 7 (by decide) rfl (by decide +kernel) dX4_weighed_26 ?_
        refine z_iload_n (pc := 29) X.1 hl 1 rfl rfl dX4_weighed_29 ?_
        obtain ⟨g4, h⟩ := z_guard h
        refine z_iald (pc := 30) X.1 hW rfl ⟨g4.1, g4.2⟩ dX4_weighed_30 ?_
        exact z_iret (pc := 31) X hW (Option.some.inj h) rfl dX4_weighed_31
      · refine z_aload_n (pc := 16) X.1 hl 0 rfl rfl dX4_weighed_16 ?_
        refine z_get7 (pc := 17) X.1 hW rfl iX4_weighed_7 8 (by decide) rfl (by decide +kernel) dX4_weighed_17 ?_
        refine z_iload_n (pc := 20) X.1 hl 1 rfl rfl dX4_weighed_20 ?_
        obtain ⟨g5, h⟩ := z_guard h
        refine z_iald (pc := 21) X.1 hW rfl ⟨g5.1, g5.2⟩ dX4_weighed_21 ?_
        refine z_goto (pc := 22) (tgt := 31) X.1 dX4_weighed_22 (by decide) ?_
        exact z_iret (pc := 31) X hW (Option.some.inj h) rfl dX4_weighed_31
    · refine z_iconst (pc := 10) X.1 dX4_weighed_10 ?_
      exact z_iret (pc := 11) X hW (Option.some.inj h) rfl dX4_weighed_11
-- X4_throughOf
theorem iX4_throughOf_3 : ∀ w ∈ wsX10, w ∈ wsX4_throughOf := by decide +kernel
theorem iX4_throughOf_7 : ∀ w ∈ wsX40, w ∈ wsX4_throughOf := by decide +kernel
section
variable {p : Program} {l : Launch} {e : Env} {s : State} {m : MethodId} {args : Array Value} {below : List Frame} {meth : Method} {c : Code} {D : va_G} {cy : ClassId × ClassId} {ad : Nat → Nat} {A : Nat → Prop} {res : Int} {μ0 : mm}
theorem CJ4_throughOf_72 (X : zX p s m args meth c cX4_throughOf RX4 wsX4_throughOf 7 D cy ad (some .int) A) (N : Nat) (rec13 : Int → Int → Int → Int → mm → Option Int) (hrec13 : ∀ (x1 : Int) (x2 : Int) (x3 : Int) (x4 : Int) (μ : mm) (_ : μ = μ0), rec13 x1 x2 x3 x4 μ = some res → ∀ (H : Heap) (locs : List Loc) (ls : Array Slot), zW D cy ad A s.heap μ H locs → lv_has ls 7 [(0, .ref (ad 9)), (1, .int (iO x1)), (2, .int (iO x2)), (3, .int (iO x3)), (4, .int (iO x4))] → W p l e (rmD 3) s m args below meth c H locs 0 0 (MQ below (zQi D cy ad A res μ0) args s 0 0 A) (F0 m 13 ls [])) : ∀ (x1 : Int) (x2 : Int) (x3 : Int) (x4 : Int) (x6 : Int) (μ : mm) (_ : μ = μ0), J4_throughOf_72 N rec13 x1 x2 x3 x4 x6 μ = some res → ∀ (H : Heap) (locs : List Loc) (ls : Array Slot), zW D cy ad A s.heap μ H locs → lv_has ls 7 [(0, .ref (ad 9)), (1, .int (iO x1)), (2, .int (iO x2)), (3, .int (iO x3)), (4, .int (iO x4)), (6, .int (iO x6))] → W p l e (rmD 3) s m args below meth c H locs 0 0 (MQ below (zQi D cy ad A res μ0) args s 0 0 A) (F0 m 72 ls []) := by
  intro x1 x2 x3 x4 x6 μ em h H locs ls hW hl
  rw [J4_throughOf_72] at h
  refine z_iload_n (pc := 72) X.1 hl 3 rfl rfl dX4_throughOf_72 ?_
  refine z_aload_n (pc := 73) X.1 hl 0 rfl rfl dX4_throughOf_73 ?_
  refine z_iload (pc := 74) X.1 hl 4 rfl dX4_throughOf_74 ?_
  refine z_iload (pc := 76) X.1 hl 5 rfl dX4_throughOf_76 ?_
  obtain ⟨q9, eq9, h⟩ := z_bind h
  refine z_callV7I (pc := 78) (n := 2) (As := [.int (iO x4), .int (iO x6)]) (rest := [.int (iO x3)]) X hW hl rfl (C4_weighed l N x4 x6 μ eq9) gX4_throughOf_X4_weighed rfl (by decide +kernel) rfl (by decide) rfl (Nat.le_of_ble_eq_true rfl) dX4_throughOf_78 (fun H locs hW => ?_)
  refine z_iadd (pc := 81) X.1 dX4_throughOf_81 ?_
  obtain ⟨w10, ew10, h⟩ := z_bnd h
  refine z_istore_n (pc := 82) (i := 3) X.1 [(3, .int (iO w10)), (0, .ref (ad 9)), (1, .int (iO x1)), (2, .int (iO x2)), (4, .int (iO x4)), (6, .int (iO x6))] hl ew10 rfl (by decide) rfl dX4_throughOf_82 (fun ls hl => ?_)
  refine z_iinc (pc := 83) (i := 4) X.1 [(4, .int (iO (x4 + 1))), (3, .int (iO w10)), (0, .ref (ad 9)), (1, .int (iO x1)), (2, .int (iO x2)), (6, .int (iO x6))] hl 4 rfl rfl (by decide) rfl dX4_throughOf_83 (fun ls hl => ?_)
  refine z_goto (pc := 86) (tgt := 13) X.1 dX4_throughOf_86 (by decide) ?_
  exact hrec13 x1 x2 w10 (x4 + 1) μ em h _ _ ls hW (lv_sub hl [2, 3, 4, 1, 0] rfl)
theorem CJ4_throughOf_60 (X : zX p s m args meth c cX4_throughOf RX4 wsX4_throughOf 7 D cy ad (some .int) A) (N : Nat) (rec13 : Int → Int → Int → Int → mm → Option Int) (hrec13 : ∀ (x1 : Int) (x2 : Int) (x3 : Int) (x4 : Int) (μ : mm) (_ : μ = μ0), rec13 x1 x2 x3 x4 μ = some res → ∀ (H : Heap) (locs : List Loc) (ls : Array Slot), zW D cy ad A s.heap μ H locs → lv_has ls 7 [(0, .ref (ad 9)), (1, .int (iO x1)), (2, .int (iO x2)), (3, .int (iO x3)), (4, .int (iO x4))] → W p l e (rmD 3) s m args below meth c H locs 0 0 (MQ below (zQi D cy ad A res μ0) args s 0 0 A) (F0 m 13 ls [])) : ∀ (x1 : Int) (x2 : Int) (x3 : Int) (x4 : Int) (x5 : Int) (y0 : Int) (μ : mm) (_ : μ = μ0), J4_throughOf_60 N rec13 x1 x2 x3 x4 x5 y0 μ = some res → ∀ (H : Heap) (locs : List Loc) (ls : Array Slot), zW D cy ad A s.heap μ H locs → lv_has ls 7 [(0, .ref (ad 9)), (1, .int (iO x1)), (2, .int (iO x2)), (3, .int (iO x3)), (4, .int (iO x4)), (5, .int (iO x5))] → W p l e (rmD 3) s m args below meth c H locs 0 0 (MQ below (zQi D cy ad A res μ0) args s 0 0 A) (F0 m 60 ls [.int (iO y0)]) := by
  intro x1 x2 x3 x4 x5 y0 μ em h H locs ls hW hl
  rw [J4_throughOf_60] at h
  refine z_istore (pc := 60) (i := 6) X.1 [(6, .int (iO y0)), (0, .ref (ad 9)), (1, .int (iO x1)), (2, .int (iO x2)), (3, .int (iO x3)), (4, .int (iO x4)), (5, .int (iO x5))] hl rfl (by decide) rfl dX4_throughOf_60 (fun ls hl => ?_)
  refine z_iload (pc := 62) X.1 hl 0 rfl dX4_throughOf_62 ?_
  obtain ⟨g8, h⟩ := z_guard h
  refine z_if_eq (pc := 64) (tgt := 72) X.1 dX4_throughOf_64 (by decide) g8 h (fun c12 h => ?_) (fun c12 h => ?_)
  · exact CJ4_throughOf_72 X N rec13 hrec13 x1 x2 x3 x4 y0 μ em h _ _ ls hW (lv_sub hl [1, 2, 3, 4, 5, 0] rfl)
  · refine z_iload_n (pc := 67) X.1 hl 3 rfl rfl dX4_throughOf_67 ?_
    refine z_iload (pc := 68) X.1 hl 6 rfl dX4_throughOf_68 ?_
    refine z_isub (pc := 70) X.1 dX4_throughOf_70 ?_
    obtain ⟨w11, ew11, h⟩ := z_bnd h
    refine z_istore_n (pc := 71) (i := 2) X.1 [(2, .int (iO w11)), (6, .int (iO y0)), (0, .ref (ad 9)), (1, .int (iO x1)), (3, .int (iO x3)), (4, .int (iO x4)), (5, .int (iO x5))] hl ew11 rfl (by decide) rfl dX4_throughOf_71 (fun ls hl => ?_)
    exact CJ4_throughOf_72 X N rec13 hrec13 x1 w11 x3 x4 y0 μ em h _ _ ls hW (lv_sub hl [2, 3, 0, 4, 5, 1] rfl)
theorem CJ4_throughOf_59 (X : zX p s m args meth c cX4_throughOf RX4 wsX4_throughOf 7 D cy ad (some .int) A) (N : Nat) (rec13 : Int → Int → Int → Int → mm → Option Int) (hrec13 : ∀ (x1 : Int) (x2 : Int) (x3 : Int) (x4 : Int) (μ : mm) (_ : μ = μ0), rec13 x1 x2 x3 x4 μ = some res → ∀ (H : Heap) (locs : List Loc) (ls : Array Slot), zW D cy ad A s.heap μ H locs → lv_has ls 7 [(0, .ref (ad 9)), (1, .int (iO x1)), (2, .int (iO x2)), (3, .int (iO x3)), (4, .int (iO x4))] → W p l e (rmD 3) s m args below meth c H locs 0 0 (MQ below (zQi D cy ad A res μ0) args s 0 0 A) (F0 m 13 ls [])) : ∀ (x1 : Int) (x2 : Int) (x3 : Int) (x4 : Int) (x5 : Int) (μ : mm) (_ : μ = μ0), J4_throughOf_59 N rec13 x1 x2 x3 x4 x5 μ = some res → ∀ (H : Heap) (locs : List Loc) (ls : Array Slot), zW D cy ad A s.heap μ H locs → lv_has ls 7 [(0, .ref (ad 9)), (1, .int (iO x1)), (2, .int (iO x2)), (3, .int (iO x3)), (4, .int (iO x4)), (5, .int (iO x5))] → W p l e (rmD 3) s m args below meth c H locs 0 0 (MQ below (zQi D cy ad A res μ0) args s 0 0 A) (F0 m 59 ls []) := by
  intro x1 x2 x3 x4 x5 μ em h H locs ls hW hl
  rw [J4_throughOf_59] at h
  refine z_iconst (pc := 59) X.1 dX4_throughOf_59 ?_
  exact CJ4_throughOf_60 X N rec13 hrec13 x1 x2 x3 x4 x5 0 μ em h _ _ ls hW (lv_sub hl [0, 1, 2, 3, 4, 5] rfl)
theorem CL4_throughOf_13 (X : zX p s m args meth c cX4_throughOf RX4 wsX4_throughOf 7 D cy ad (some .int) A) (N : Nat) : ∀ (k : Nat) (x1 : Int) (x2 : Int) (x3 : Int) (x4 : Int) (μ : mm) (_ : μ = μ0), L4_throughOf_13 N k x1 x2 x3 x4 μ = some res → ∀ (H : Heap) (locs : List Loc) (ls : Array Slot), zW D cy ad A s.heap μ H locs → lv_has ls 7 [(0, .ref (ad 9)), (1, .int (iO x1)), (2, .int (iO x2)), (3, .int (iO x3)), (4, .int (iO x4))] → W p l e (rmD 3) s m args below meth c H locs 0 0 (MQ below (zQi D cy ad A res μ0) args s 0 0 A) (F0 m 13 ls []) := by
  intro k
  induction k with
  | zero =>
    intro x1 x2 x3 x4 μ em h H locs ls hW hl
    exact absurd h (by rw [L4_throughOf_13]; exact fun z => by cases z)
  | succ k ih =>
    intro x1 x2 x3 x4 μ em h H locs ls hW hl
    rw [L4_throughOf_13] at h
    refine z_iload (pc := 13) X.1 hl 4 rfl dX4_throughOf_13 ?_
    refine z_aload_n (pc := 15) X.1 hl 0 rfl rfl dX4_throughOf_15 ?_
    refine z_get7 (pc := 16) X.1 hW rfl iX4_throughOf_7 0 (by decide) rfl (by decide +kernel) dX4_throughOf_16 ?_
    refine z_get3 (pc := 19) X.1 hW rfl iX4_throughOf_3 2 (by decide) rfl (by decide +kernel) dX4_throughOf_19 ?_
    obtain ⟨g2, h⟩ := z_guard h
    refine z_icmp_ge (pc := 22) (tgt := 89) X.1 dX4_throughOf_22 (by decide) ⟨g2.1, g2.2⟩ h (fun c16 h => ?_) (fun c16 h => ?_)
    · refine z_iload_n (pc := 89) X.1 hl 3 rfl rfl dX4_throughOf_89 ?_
      exact z_iret (pc := 90) X hW (Option.some.inj h) em dX4_throughOf_90
    · refine z_aload_n (pc := 25) X.1 hl 0 rfl rfl dX4_throughOf_25 ?_
      refine z_get7 (pc := 26) X.1 hW rfl iX4_throughOf_7 0 (by decide) rfl (by decide +kernel) dX4_throughOf_26 ?_
      refine z_iload (pc := 29) X.1 hl 4 rfl dX4_throughOf_29 ?_
      obtain ⟨q3, eq3, h⟩ := z_bind h
      obtain ⟨g4, h⟩ := z_guard h
      refine z_callV3R (pc := 31) (n := 1) (As := [.int (iO x4)]) (rest := []) X hW hl rfl (C1_at l N 10 x4 rfl μ eq3) gX4_throughOf_X1_at rfl (by decide +kernel) rfl (by decide) rfl (Nat.le_of_ble_eq_true rfl) dX4_throughOf_31 (fun H locs hW => ?_)
      obtain ⟨q5, eq5, h⟩ := z_bind h
      refine z_callV5I (pc := 34) (n := 0) (As := []) (rest := []) X hW hl g4 (C2_lacking l N q3 g4 μ eq5) gX4_throughOf_X2_lacking rfl (by decide +kernel) rfl (by decide) rfl (Nat.le_of_ble_eq_true rfl) dX4_throughOf_34 (fun H locs hW => ?_)
      refine z_istore (pc := 37) (i := 5) X.1 [(5, .int (iO q5)), (0, .ref (ad 9)), (1, .int (iO x1)), (2, .int (iO x2)), (3, .int (iO x3)), (4, .int (iO x4))] hl rfl (by decide) rfl dX4_throughOf_37 (fun ls hl => ?_)
      refine z_iload_n (pc := 39) X.1 hl 2 rfl rfl dX4_throughOf_39 ?_
      refine z_iload (pc := 40) X.1 hl 5 rfl dX4_throughOf_40 ?_
      obtain ⟨g6, h⟩ := z_guard h
      refine z_ishr (pc := 42) X.1 dX4_throughOf_42 ⟨g6.1, g6.2.1, g6.2.2⟩ ?_
      refine z_iconst (pc := 43) X.1 dX4_throughOf_43 ?_
      refine z_iand1 (pc := 44) X.1 dX4_throughOf_44 ?_
      refine z_iconst (pc := 45) X.1 dX4_throughOf_45 ?_
      obtain ⟨g7, h⟩ := z_guard h
      refine z_icmp_ne (pc := 46) (tgt := 59) X.1 dX4_throughOf_46 (by decide) ⟨g7, (by decide)⟩ h (fun c15 h => ?_) (fun c15 h => ?_)
      · exact CJ4_throughOf_59 X N (L4_throughOf_13 N k) ih x1 x2 x3 x4 q5 μ em h _ _ ls hW (lv_sub hl [1, 2, 3, 4, 5, 0] rfl)
      · refine z_iload (pc := 49) X.1 hl 0 rfl dX4_throughOf_49 ?_
        refine z_iload_n (pc := 51) X.1 hl 3 rfl rfl dX4_throughOf_51 ?_
        obtain ⟨g13, h⟩ := z_guard h
        refine z_icmp_gt (pc := 52) (tgt := 59) X.1 dX4_throughOf_52 (by decide) ⟨g13.1, g13.2⟩ h (fun c14 h => ?_) (fun c14 h => ?_)
        · exact CJ4_throughOf_59 X N (L4_throughOf_13 N k) ih x1 x2 x3 x4 q5 μ em h _ _ ls hW (lv_sub hl [1, 2, 3, 4, 5, 0] rfl)
        · refine z_iconst (pc := 55) X.1 dX4_throughOf_55 ?_
          refine z_goto (pc := 56) (tgt := 60) X.1 dX4_throughOf_56 (by decide) ?_
          exact CJ4_throughOf_60 X N (L4_throughOf_13 N k) ih x1 x2 x3 x4 q5 1 μ em h _ _ ls hW (lv_sub hl [1, 2, 3, 4, 5, 0] rfl)
end
theorem C4_throughOf (l : Launch) {D : va_G} {cy : ClassId × ClassId} {ad : Nat → Nat} (N : Nat) (a0 : Int) (μ0 : mm) {res : Int} (h : M4_throughOf N a0 μ0 = some res) : zI l yX4_throughOf wsX4_throughOf 3 D cy ad [.ref (ad 9), .int (iO a0)] μ0 res μ0 := by
  refine zI.of RX4 rfl (by decide) rfl (Nat.le_of_ble_eq_true rfl) ?_
  intro p e s m args below meth c A X hW ls hl
  have hl : lv_has ls 7 [(0, .ref (ad 9)), (1, .int (iO a0))] := hl
  unfold M4_throughOf at h
  refine z_aload_n (pc := 0) X.1 hl 0 rfl rfl dX4_throughOf_0 ?_
  refine z_get7 (pc := 1) X.1 hW rfl iX4_throughOf_7 0 (by decide) rfl (by decide +kernel) dX4_throughOf_1 ?_
  refine z_get3 (pc := 4) X.1 hW rfl iX4_throughOf_3 3 (by decide) rfl (by decide +kernel) dX4_throughOf_4 ?_
  obtain ⟨w1, ew1, h⟩ := z_bnd h
  refine z_istore_n (pc := 7) (i := 2) X.1 [(2, .int (iO w1)), (0, .ref (ad 9)), (1, .int (iO a0))] hl ew1 rfl (by decide) rfl dX4_throughOf_7 (fun ls hl => ?_)
  refine z_iconst (pc := 8) X.1 dX4_throughOf_8 ?_
  refine z_istore_n (pc := 9) (i := 3) X.1 [(3, .int (iO 0)), (2, .int (iO w1)), (0, .ref (ad 9)), (1, .int (iO a0))] hl rfl rfl (by decide) rfl dX4_throughOf_9 (fun ls hl => ?_)
  refine z_iconst (pc := 10) X.1 dX4_throughOf_10 ?_
  refine z_istore (pc := 11) (i := 4) X.1 [(4, .int (iO 0)), (3, .int (iO 0)), (2, .int (iO w1)), (0, .ref (ad 9)), (1, .int (iO a0))] hl rfl (by decide) rfl dX4_throughOf_11 (fun ls hl => ?_)
  exact CL4_throughOf_13 X N N a0 w1 0 0 μ0 rfl h _ _ ls hW (lv_sub hl [3, 4, 2, 1, 0] rfl)
-- X4_best
theorem iX4_best_3 : ∀ w ∈ wsX10, w ∈ wsX4_best := by decide +kernel
theorem iX4_best_7 : ∀ w ∈ wsX40, w ∈ wsX4_best := by decide +kernel
section
variable {p : Program} {l : Launch} {e : Env} {s : State} {m : MethodId} {args : Array Value} {below : List Frame} {meth : Method} {c : Code} {D : va_G} {cy : ClassId × ClassId} {ad : Nat → Nat} {A : Nat → Prop} {res : (Int × mm)}
theorem CJ4_best_79 (X : zX p s m args meth c cX4_best RX4 wsX4_best 8 D cy ad (some .int) A) (N : Nat) (rec42 : Int → Int → Int → Int → mm → Option (Int × mm)) (hrec42 : ∀ (x2 : Int) (x4 : Int) (x5 : Int) (x6 : Int) (μ : mm), rec42 x2 x4 x5 x6 μ = some res → ∀ (H : Heap) (locs : List Loc) (ls : Array Slot), zW D cy ad A s.heap μ H locs → lv_has ls 8 [(0, .ref (ad 9)), (2, .int (iO x2)), (4, .int (iO x4)), (5, .int (iO x5)), (6, .int (iO x6))] → W p l e (rmD 5) s m args below meth c H locs 0 0 (MQ below (zQi D cy ad A res.1 res.2) args s 0 0 A) (F0 m 42 ls [])) : ∀ (x2 : Int) (x4 : Int) (x5 : Int) (x6 : Int) (μ : mm), J4_best_79 N rec42 x2 x4 x5 x6 μ = some res → ∀ (H : Heap) (locs : List Loc) (ls : Array Slot), zW D cy ad A s.heap μ H locs → lv_has ls 8 [(0, .ref (ad 9)), (2, .int (iO x2)), (4, .int (iO x4)), (5, .int (iO x5)), (6, .int (iO x6))] → W p l e (rmD 5) s m args below meth c H locs 0 0 (MQ below (zQi D cy ad A res.1 res.2) args s 0 0 A) (F0 m 79 ls []) := by
  intro x2 x4 x5 x6 μ h H locs ls hW hl
  rw [J4_best_79] at h
  refine z_iinc (pc := 79) (i := 6) X.1 [(6, .int (iO (x6 + 1))), (0, .ref (ad 9)), (2, .int (iO x2)), (4, .int (iO x4)), (5, .int (iO x5))] hl 4 rfl rfl (by decide) rfl dX4_best_79 (fun ls hl => ?_)
  refine z_goto (pc := 82) (tgt := 42) X.1 dX4_best_82 (by decide) ?_
  exact hrec42 x2 x4 x5 (x6 + 1) μ h _ _ ls hW (lv_sub hl [1, 2, 3, 4, 0] rfl)
theorem CL4_best_42 (X : zX p s m args meth c cX4_best RX4 wsX4_best 8 D cy ad (some .int) A) (N : Nat) : ∀ (k : Nat) (x2 : Int) (x4 : Int) (x5 : Int) (x6 : Int) (μ : mm), L4_best_42 N k x2 x4 x5 x6 μ = some res → ∀ (H : Heap) (locs : List Loc) (ls : Array Slot), zW D cy ad A s.heap μ H locs → lv_has ls 8 [(0, .ref (ad 9)), (2, .int (iO x2)), (4, .int (iO x4)), (5, .int (iO x5)), (6, .int (iO x6))] → W p l e (rmD 5) s m args below meth c H locs 0 0 (MQ below (zQi D cy ad A res.1 res.2) args s 0 0 A) (F0 m 42 ls []) := by
  intro k
  induction k with
  | zero =>
    intro x2 x4 x5 x6 μ h H locs ls hW hl
    exact absurd h (by rw [L4_best_42]; exact fun z => by cases z)
  | succ k ih =>
    intro x2 x4 x5 x6 μ h H locs ls hW hl
    rw [L4_best_42] at h
    refine z_iload (pc := 42) X.1 hl 4 rfl dX4_best_42 ?_
    refine z_iconst (pc := 44) X.1 dX4_best_44 ?_
    refine z_aload_n (pc := 45) X.1 hl 0 rfl rfl dX4_best_45 ?_
    refine z_get7 (pc := 46) X.1 hW rfl iX4_best_7 0 (by decide) rfl (by decide +kernel) dX4_best_46 ?_
    refine z_get3 (pc := 49) X.1 hW rfl iX4_best_3 2 (by decide) rfl (by decide +kernel) dX4_best_49 ?_
    obtain ⟨g6, h⟩ := z_guard h
    refine z_ishl (pc := 52) X.1 dX4_best_52 ⟨g6.1, g6.2⟩ ?_
    obtain ⟨g7, h⟩ := z_guard h
    refine z_icmp_ge (pc := 53) (tgt := 85) X.1 dX4_best_53 (by decide) ⟨g7.1, g7.2⟩ h (fun c13 h => ?_) (fun c13 h => ?_)
    · refine z_iload_n (pc := 85) X.1 hl 1 rfl rfl dX4_best_85 ?_
      obtain ⟨g8, h⟩ := z_guard h
      refine z_if_ne (pc := 86) (tgt := 94) X.1 dX4_best_86 (by decide) g8 h (fun c9 h => ?_) (fun c9 h => ?_)
      · refine z_iload (pc := 94) X.1 hl 3 rfl dX4_best_94 ?_
        exact z_iret (pc := 96) X hW (z_p1 h) (z_p2 h) dX4_best_96
      · refine z_iload (pc := 89) X.1 hl 2 rfl dX4_best_89 ?_
        refine z_goto (pc := 91) (tgt := 96) X.1 dX4_best_91 (by decide) ?_
        exact z_iret (pc := 96) X hW (z_p1 h) (z_p2 h) dX4_best_96
    · refine z_aload_n (pc := 56) X.1 hl 0 rfl rfl dX4_best_56 ?_
      refine z_iload (pc := 57) X.1 hl 4 rfl dX4_best_57 ?_
      obtain ⟨q10, eq10, h⟩ := z_bind h
      refine z_callV7I (pc := 59) (n := 1) (As := [.int (iO x6)]) (rest := []) X hW hl rfl (C4_throughOf l N x6 μ eq10) gX4_best_X4_throughOf rfl (by decide +kernel) rfl (by decide) rfl (Nat.le_of_ble_eq_true rfl) dX4_best_59 (fun H locs hW => ?_)
      refine z_istore (pc := 62) (i := 7) X.1 [(7, .int (iO q10)), (0, .ref (ad 9)), (2, .int (iO x2)), (4, .int (iO x4)), (5, .int (iO x5)), (6, .int (iO x6))] hl rfl (by decide) rfl dX4_best_62 (fun ls hl => ?_)
      refine z_iload (pc := 64) X.1 hl 0 rfl dX4_best_64 ?_
      refine z_iload (pc := 66) X.1 hl 3 rfl dX4_best_66 ?_
      obtain ⟨g11, h⟩ := z_guard h
      refine z_icmp_le (pc := 68) (tgt := 79) X.1 dX4_best_68 (by decide) ⟨g11.1, g11.2⟩ h (fun c12 h => ?_) (fun c12 h => ?_)
      · exact CJ4_best_79 X N (L4_best_42 N k) ih x2 x4 x5 x6 μ h _ _ ls hW (lv_sub hl [1, 2, 3, 4, 5] rfl)
      · refine z_iload (pc := 71) X.1 hl 0 rfl dX4_best_71 ?_
        refine z_istore (pc := 73) (i := 4) X.1 [(4, .int (iO q10)), (7, .int (iO q10)), (0, .ref (ad 9)), (2, .int (iO x2)), (5, .int (iO x5)), (6, .int (iO x6))] hl rfl (by decide) rfl dX4_best_73 (fun ls hl => ?_)
        refine z_iload (pc := 75) X.1 hl 5 rfl dX4_best_75 ?_
        refine z_istore (pc := 77) (i := 5) X.1 [(5, .int (iO x6)), (4, .int (iO q10)), (7, .int (iO q10)), (0, .ref (ad 9)), (2, .int (iO x2)), (6, .int (iO x6))] hl rfl (by decide) rfl dX4_best_77 (fun ls hl => ?_)
        exact CJ4_best_79 X N (L4_best_42 N k) ih x2 q10 x6 x6 μ h _ _ ls hW (lv_sub hl [3, 4, 1, 0, 5] rfl)
end
theorem C4_best (l : Launch) {D : va_G} {cy : ClassId × ClassId} {ad : Nat → Nat} (N : Nat) (a0 : Int) (a1 : Int) (μ : mm) {res : (Int × mm)} (h : M4_best N a0 a1 μ = some res) : zI l yX4_best wsX4_best 5 D cy ad [.ref (ad 9), .int (iO a0), .int (iO a1)] μ res.1 res.2 := by
  refine zI.of RX4 rfl (by decide) rfl (Nat.le_of_ble_eq_true rfl) ?_
  intro p e s m args below meth c A X hW ls hl
  have hl : lv_has ls 8 [(0, .ref (ad 9)), (1, .int (iO a0)), (2, .int (iO a1))] := hl
  unfold M4_best at h
  refine z_iload_n (pc := 0) X.1 hl 1 rfl rfl dX4_best_0 ?_
  refine z_iconst (pc := 1) X.1 dX4_best_1 ?_
  refine z_bipush (pc := 2) X.1 dX4_best_2 (by decide) ?_
  obtain ⟨q1, eq1, h⟩ := z_bind h
  refine z_callSI (pc := 4) (n := 3) (As := [.int (iO a0), .int (iO 1), .int (iO 30)]) (rest := []) X hW hl (C4_outside l N a0 1 30 μ eq1) gX4_best_X4_outside rfl (by decide +kernel) rfl (by decide) rfl (Nat.le_of_ble_eq_true rfl) dX4_best_4 (fun H locs hW => ?_)
  refine z_iload_n (pc := 7) X.1 hl 2 rfl rfl dX4_best_7 ?_
  refine z_iconst (pc := 8) X.1 dX4_best_8 ?_
  obtain ⟨q2, eq2, h⟩ := z_bind h
  refine z_callSI (pc := 9) (n := 2) (As := [.int (iO a1), .int (iO 1)]) (rest := [.int (iO q1)]) X hW hl (C4_other l N a1 1 μ eq2) gX4_best_X4_other rfl (by decide +kernel) rfl (by decide) rfl (Nat.le_of_ble_eq_true rfl) dX4_best_9 (fun H locs hW => ?_)
  refine z_iconst (pc := 12) X.1 dX4_best_12 ?_
  obtain ⟨q3, eq3, h⟩ := z_bind h
  refine z_callSI (pc := 13) (n := 3) (As := [.int (iO q1), .int (iO q2), .int (iO 0)]) (rest := []) X hW hl (C4_firstOf l N q1 q2 0 μ eq3) gX4_best_X4_firstOf rfl (by decide +kernel) rfl (by decide) rfl (Nat.le_of_ble_eq_true rfl) dX4_best_13 (fun H locs hW => ?_)
  refine z_istore_n (pc := 16) (i := 3) X.1 [(3, .int (iO q3)), (0, .ref (ad 9)), (1, .int (iO a0)), (2, .int (iO a1))] hl rfl rfl (by decide) rfl dX4_best_16 (fun ls hl => ?_)
  refine z_iload_n (pc := 17) X.1 hl 0 rfl rfl dX4_best_17 ?_
  obtain ⟨g4, h⟩ := z_guard h
  refine z_if_eq (pc := 18) (tgt := 27) X.1 dX4_best_18 (by decide) g4 h (fun c15 h => ?_) (fun c15 h => ?_)
  · refine z_aload_n (pc := 27) X.1 hl 1 rfl rfl dX4_best_27 ?_
    refine z_iload_n (pc := 28) X.1 hl 2 rfl rfl dX4_best_28 ?_
    obtain ⟨q5, eq5, h⟩ := z_bind h
    refine z_callV7V (pc := 29) (n := 1) (As := [.int (iO a0)]) (rest := []) X hW hl rfl (C4_weigh l N a0 μ eq5) gX4_best_X4_weigh rfl (by decide +kernel) rfl (by decide) rfl (Nat.le_of_ble_eq_true rfl) dX4_best_29 (fun H locs hW => ?_)
    refine z_bipush (pc := 32) X.1 dX4_best_32 (by decide) ?_
    refine z_istore (pc := 34) (i := 4) X.1 [(4, .int (iO (-9))), (3, .int (iO q3)), (0, .ref (ad 9)), (1, .int (iO a0)), (2, .int (iO a1))] hl rfl (by decide) rfl dX4_best_34 (fun ls hl => ?_)
    refine z_iconst (pc := 36) X.1 dX4_best_36 ?_
    refine z_istore (pc := 37) (i := 5) X.1 [(5, .int (iO 0)), (4, .int (iO (-9))), (3, .int (iO q3)), (0, .ref (ad 9)), (1, .int (iO a0)), (2, .int (iO a1))] hl rfl (by decide) rfl dX4_best_37 (fun ls hl => ?_)
    refine z_iconst (pc := 39) X.1 dX4_best_39 ?_
    refine z_istore (pc := 40) (i := 6) X.1 [(6, .int (iO 0)), (5, .int (iO 0)), (4, .int (iO (-9))), (3, .int (iO q3)), (0, .ref (ad 9)), (1, .int (iO a0)), (2, .int (iO a1))] hl rfl (by decide) rfl dX4_best_40 (fun ls hl => ?_)
    exact CL4_best_42 X N N a1 (-9) 0 0 q5 h _ _ ls hW (lv_sub hl [4, 6, 2, 1, 0] rfl)
  · refine z_aload_n (pc := 21) X.1 hl 1 rfl rfl dX4_best_21 ?_
    refine z_iload_n (pc := 22) X.1 hl 0 rfl rfl dX4_best_22 ?_
    obtain ⟨q14, eq14, h⟩ := z_bind h
    refine z_callV7I (pc := 23) (n := 1) (As := [.int (iO q3)]) (rest := []) X hW hl rfl (C4_refused l N q3 μ eq14) gX4_best_X4_refused rfl (by decide +kernel) rfl (by decide) rfl (Nat.le_of_ble_eq_true rfl) dX4_best_23 (fun H locs hW => ?_)
    exact z_iret (pc := 26) X hW (z_p1 h) (z_p2 h) dX4_best_26
-- X4_run
theorem iX4_run_7 : ∀ w ∈ wsX40, w ∈ wsX4_run := by decide +kernel
section
variable {p : Program} {l : Launch} {e : Env} {s : State} {m : MethodId} {args : Array Value} {below : List Frame} {meth : Method} {c : Code} {D : va_G} {cy : ClassId × ClassId} {ad : Nat → Nat} {A : Nat → Prop} {res : (Int × mm)}
theorem CL4_run_29 (X : zX p s m args meth c cX4_run RX4 wsX4_run 5 D cy ad (some .int) A) (N : Nat) : ∀ (k : Nat) (x1 : Int) (x3 : Int) (μ : mm), L4_run_29 N k x1 x3 μ = some res → ∀ (H : Heap) (locs : List Loc) (ls : Array Slot), zW D cy ad A s.heap μ H locs → lv_has ls 5 [(0, .ref (ad 9)), (1, .int (iO x1)), (3, .int (iO x3))] → W p l e (rmD 4) s m args below meth c H locs 0 0 (MQ below (zQi D cy ad A res.1 res.2) args s 0 0 A) (F0 m 29 ls []) := by
  intro k
  induction k with
  | zero =>
    intro x1 x3 μ h H locs ls hW hl
    exact absurd h (by rw [L4_run_29]; exact fun z => by cases z)
  | succ k ih =>
    intro x1 x3 μ h H locs ls hW hl
    rw [L4_run_29] at h
    refine z_iload_n (pc := 29) X.1 hl 2 rfl rfl dX4_run_29 ?_
    refine z_bipush (pc := 30) X.1 dX4_run_30 (by decide) ?_
    obtain ⟨g4, h⟩ := z_guard h
    refine z_icmp_gt (pc := 32) (tgt := 74) X.1 dX4_run_32 (by decide) ⟨g4, (by decide)⟩ h (fun c11 h => ?_) (fun c11 h => ?_)
    · refine z_bipush (pc := 74) X.1 dX4_run_74 (by decide) ?_
      exact z_iret (pc := 76) X hW (z_p1 h) (z_p2 h) dX4_run_76
    · refine z_aload_n (pc := 35) X.1 hl 0 rfl rfl dX4_run_35 ?_
      refine z_get7 (pc := 36) X.1 hW rfl iX4_run_7 1 (by decide) rfl (by decide +kernel) dX4_run_36 ?_
      obtain ⟨q5, eq5, h⟩ := z_bind h
      refine z_callV3I (pc := 39) (n := 0) (As := []) (rest := []) X hW hl rfl (C1_issueAhead l N 21 rfl μ eq5) gX4_run_X1_issueAhead rfl (by decide +kernel) rfl (by decide) rfl (Nat.le_of_ble_eq_true rfl) dX4_run_39 (fun H locs hW => ?_)
      refine z_istore (pc := 42) (i := 4) X.1 [(4, .int (iO q5.1)), (0, .ref (ad 9)), (1, .int (iO x1)), (3, .int (iO x3))] hl rfl (by decide) rfl dX4_run_42 (fun ls hl => ?_)
      refine z_iload (pc := 44) X.1 hl 0 rfl dX4_run_44 ?_
      obtain ⟨g6, h⟩ := z_guard h
      refine z_if_lt (pc := 46) (tgt := 60) X.1 dX4_run_46 (by decide) g6 h (fun c10 h => ?_) (fun c10 h => ?_)
      · refine z_aload_n (pc := 60) X.1 hl 1 rfl rfl dX4_run_60 ?_
        refine z_get7 (pc := 61) X.1 hW rfl iX4_run_7 1 (by decide) rfl (by decide +kernel) dX4_run_61 ?_
        refine z_iconst (pc := 64) X.1 dX4_run_64 ?_
        obtain ⟨q7, eq7, h⟩ := z_bind h
        refine z_callV3V (pc := 65) (n := 1) (As := [.int (iO 1)]) (rest := []) X hW hl rfl (C1_daysGoBy l N 21 1 rfl q5.2 eq7) gX4_run_X1_daysGoBy rfl (by decide +kernel) rfl (by decide) rfl (Nat.le_of_ble_eq_true rfl) dX4_run_65 (fun H locs hW => ?_)
        refine z_iinc (pc := 68) (i := 3) X.1 [(3, .int (iO (x3 + 1))), (4, .int (iO q5.1)), (0, .ref (ad 9)), (1, .int (iO x1))] hl 3 rfl rfl (by decide) rfl dX4_run_68 (fun ls hl => ?_)
        refine z_goto (pc := 71) (tgt := 29) X.1 dX4_run_71 (by decide) ?_
        exact ih x1 (x3 + 1) q7 h _ _ ls hW (lv_sub hl [2, 3, 0] rfl)
      · refine z_iload_n (pc := 49) X.1 hl 2 rfl rfl dX4_run_49 ?_
        obtain ⟨g8, h⟩ := z_guard h
        refine z_if_ne (pc := 50) (tgt := 57) X.1 dX4_run_50 (by decide) g8 h (fun c9 h => ?_) (fun c9 h => ?_)
        · refine z_iload (pc := 57) X.1 hl 0 rfl dX4_run_57 ?_
          exact z_iret (pc := 59) X hW (z_p1 h) (z_p2 h) dX4_run_59
        · refine z_iload_n (pc := 53) X.1 hl 3 rfl rfl dX4_run_53 ?_
          refine z_goto (pc := 54) (tgt := 59) X.1 dX4_run_54 (by decide) ?_
          exact z_iret (pc := 59) X hW (z_p1 h) (z_p2 h) dX4_run_59
end
theorem C4_run (l : Launch) {D : va_G} {cy : ClassId × ClassId} {ad : Nat → Nat} (N : Nat) (a0 : Int) (μ : mm) {res : (Int × mm)} (h : M4_run N a0 μ = some res) : zI l yX4_run wsX4_run 4 D cy ad [.ref (ad 9), .int (iO a0)] μ res.1 res.2 := by
  refine zI.of RX4 rfl (by decide) rfl (Nat.le_of_ble_eq_true rfl) ?_
  intro p e s m args below meth c A X hW ls hl
  have hl : lv_has ls 5 [(0, .ref (ad 9)), (1, .int (iO a0))] := hl
  unfold M4_run at h
  refine z_iload_n (pc := 0) X.1 hl 1 rfl rfl dX4_run_0 ?_
  refine z_iconst (pc := 1) X.1 dX4_run_1 ?_
  obtain ⟨q1, eq1, h⟩ := z_bind h
  refine z_callSI (pc := 2) (n := 2) (As := [.int (iO a0), .int (iO 1)]) (rest := []) X hW hl (C4_other l N a0 1 μ eq1) gX4_run_X4_other rfl (by decide +kernel) rfl (by decide) rfl (Nat.le_of_ble_eq_true rfl) dX4_run_2 (fun H locs hW => ?_)
  refine z_istore_n (pc := 5) (i := 2) X.1 [(2, .int (iO q1)), (0, .ref (ad 9)), (1, .int (iO a0))] hl rfl rfl (by decide) rfl dX4_run_5 (fun ls hl => ?_)
  refine z_iload_n (pc := 6) X.1 hl 0 rfl rfl dX4_run_6 ?_
  obtain ⟨g2, h⟩ := z_guard h
  refine z_if_eq (pc := 7) (tgt := 16) X.1 dX4_run_7 (by decide) g2 h (fun c13 h => ?_) (fun c13 h => ?_)
  · refine z_aload_n (pc := 16) X.1 hl 1 rfl rfl dX4_run_16 ?_
    refine z_get7 (pc := 17) X.1 hW rfl iX4_run_7 1 (by decide) rfl (by decide +kernel) dX4_run_17 ?_
    refine z_aload_n (pc := 20) X.1 hl 1 rfl rfl dX4_run_20 ?_
    refine z_get7 (pc := 21) X.1 hW rfl iX4_run_7 0 (by decide) rfl (by decide +kernel) dX4_run_21 ?_
    obtain ⟨q3, eq3, h⟩ := z_bind h
    refine z_callV3V (pc := 24) (n := 1) (As := [.ref (ad 10)]) (rest := []) X hW hl rfl (C1_takeFrom l N 21 10 rfl rfl μ eq3) gX4_run_X1_takeFrom rfl (by decide +kernel) rfl (by decide) rfl (Nat.le_of_ble_eq_true rfl) dX4_run_24 (fun H locs hW => ?_)
    refine z_iconst (pc := 27) X.1 dX4_run_27 ?_
    refine z_istore_n (pc := 28) (i := 3) X.1 [(3, .int (iO 0)), (2, .int (iO q1)), (0, .ref (ad 9)), (1, .int (iO a0))] hl rfl rfl (by decide) rfl dX4_run_28 (fun ls hl => ?_)
    exact CL4_run_29 X N N a0 0 q3 h _ _ ls hW (lv_sub hl [2, 3, 0] rfl)
  · refine z_aload_n (pc := 10) X.1 hl 1 rfl rfl dX4_run_10 ?_
    refine z_iload_n (pc := 11) X.1 hl 0 rfl rfl dX4_run_11 ?_
    obtain ⟨q12, eq12, h⟩ := z_bind h
    refine z_callV7I (pc := 12) (n := 1) (As := [.int (iO q1)]) (rest := []) X hW hl rfl (C4_refused l N q1 μ eq12) gX4_run_X4_refused rfl (by decide +kernel) rfl (by decide) rfl (Nat.le_of_ble_eq_true rfl) dX4_run_12 (fun H locs hW => ?_)
    exact z_iret (pc := 15) X hW (z_p1 h) (z_p2 h) dX4_run_15
-- X4_stock
theorem iX4_stock_3 : ∀ w ∈ wsX10, w ∈ wsX4_stock := by decide +kernel
theorem iX4_stock_7 : ∀ w ∈ wsX40, w ∈ wsX4_stock := by decide +kernel
section
variable {p : Program} {l : Launch} {e : Env} {s : State} {m : MethodId} {args : Array Value} {below : List Frame} {meth : Method} {c : Code} {D : va_G} {cy : ClassId × ClassId} {ad : Nat → Nat} {A : Nat → Prop} {res : (Int × mm)}
theorem CL4_stock_41 (X : zX p s m args meth c cX4_stock RX4 wsX4_stock 4 D cy ad (some .int) A) (N : Nat) : ∀ (k : Nat) (x1 : Int) (x3 : Int) (μ : mm), L4_stock_41 N k x1 x3 μ = some res → ∀ (H : Heap) (locs : List Loc) (ls : Array Slot), zW D cy ad A s.heap μ H locs → lv_has ls 4 [(0, .ref (ad 9)), (1, .int (iO x1)), (3, .int (iO x3))] → W p l e (rmD 4) s m args below meth c H locs 0 0 (MQ below (zQi D cy ad A res.1 res.2) args s 0 0 A) (F0 m 41 ls []) := by
  intro k
  induction k with
  | zero =>
    intro x1 x3 μ h H locs ls hW hl
    exact absurd h (by rw [L4_stock_41]; exact fun z => by cases z)
  | succ k ih =>
    intro x1 x3 μ h H locs ls hW hl
    rw [L4_stock_41] at h
    refine z_iload_n (pc := 41) X.1 hl 2 rfl rfl dX4_stock_41 ?_
    refine z_iload_n (pc := 42) X.1 hl 1 rfl rfl dX4_stock_42 ?_
    obtain ⟨g5, h⟩ := z_guard h
    refine z_icmp_ge (pc := 43) (tgt := 73) X.1 dX4_stock_43 (by decide) ⟨g5.1, g5.2⟩ h (fun c10 h => ?_) (fun c10 h => ?_)
    · refine z_sipush (pc := 73) X.1 dX4_stock_73 (by decide) ?_
      refine z_aload_n (pc := 76) X.1 hl 0 rfl rfl dX4_stock_76 ?_
      refine z_get7 (pc := 77) X.1 hW rfl iX4_stock_7 1 (by decide) rfl (by decide +kernel) dX4_stock_77 ?_
      refine z_get3 (pc := 80) X.1 hW rfl iX4_stock_3 3 (by decide) rfl (by decide +kernel) dX4_stock_80 ?_
      refine z_isub (pc := 83) X.1 dX4_stock_83 ?_
      exact z_iret (pc := 84) X hW (z_p1 h) (z_p2 h) dX4_stock_84
    · refine z_aload_n (pc := 46) X.1 hl 0 rfl rfl dX4_stock_46 ?_
      refine z_get7 (pc := 47) X.1 hW rfl iX4_stock_7 1 (by decide) rfl (by decide +kernel) dX4_stock_47 ?_
      obtain ⟨q6, eq6, h⟩ := z_bind h
      refine z_callV3I (pc := 50) (n := 0) (As := []) (rest := []) X hW hl rfl (C1_issueAhead l N 21 rfl μ eq6) gX4_stock_X1_issueAhead rfl (by decide +kernel) rfl (by decide) rfl (Nat.le_of_ble_eq_true rfl) dX4_stock_50 (fun H locs hW => ?_)
      obtain ⟨g7, h⟩ := z_guard h
      refine z_if_lt (pc := 53) (tgt := 59) X.1 dX4_stock_53 (by decide) g7 h (fun c9 h => ?_) (fun c9 h => ?_)
      · refine z_aload_n (pc := 59) X.1 hl 0 rfl rfl dX4_stock_59 ?_
        refine z_get7 (pc := 60) X.1 hW rfl iX4_stock_7 1 (by decide) rfl (by decide +kernel) dX4_stock_60 ?_
        refine z_iconst (pc := 63) X.1 dX4_stock_63 ?_
        obtain ⟨q8, eq8, h⟩ := z_bind h
        refine z_callV3V (pc := 64) (n := 1) (As := [.int (iO 1)]) (rest := []) X hW hl rfl (C1_daysGoBy l N 21 1 rfl q6.2 eq8) gX4_stock_X1_daysGoBy rfl (by decide +kernel) rfl (by decide) rfl (Nat.le_of_ble_eq_true rfl) dX4_stock_64 (fun H locs hW => ?_)
        refine z_iinc (pc := 67) (i := 3) X.1 [(3, .int (iO (x3 + 1))), (0, .ref (ad 9)), (1, .int (iO x1))] hl 2 rfl rfl (by decide) rfl dX4_stock_67 (fun ls hl => ?_)
        refine z_goto (pc := 70) (tgt := 41) X.1 dX4_stock_70 (by decide) ?_
        exact ih x1 (x3 + 1) q8 h _ _ ls hW (lv_sub hl [1, 2, 0] rfl)
      · refine z_bipush (pc := 56) X.1 dX4_stock_56 (by decide) ?_
        exact z_iret (pc := 58) X hW (z_p1 h) (z_p2 h) dX4_stock_58
end
theorem C4_stock (l : Launch) {D : va_G} {cy : ClassId × ClassId} {ad : Nat → Nat} (N : Nat) (a0 : Int) (μ : mm) {res : (Int × mm)} (h : M4_stock N a0 μ = some res) : zI l yX4_stock wsX4_stock 4 D cy ad [.ref (ad 9), .int (iO a0)] μ res.1 res.2 := by
  refine zI.of RX4 rfl (by decide) rfl (Nat.le_of_ble_eq_true rfl) ?_
  intro p e s m args below meth c A X hW ls hl
  have hl : lv_has ls 4 [(0, .ref (ad 9)), (1, .int (iO a0))] := hl
  unfold M4_stock at h
  refine z_iload_n (pc := 0) X.1 hl 1 rfl rfl dX4_stock_0 ?_
  refine z_iconst (pc := 1) X.1 dX4_stock_1 ?_
  refine z_bipush (pc := 2) X.1 dX4_stock_2 (by decide) ?_
  obtain ⟨q1, eq1, h⟩ := z_bind h
  refine z_callSI (pc := 4) (n := 3) (As := [.int (iO a0), .int (iO 1), .int (iO 30)]) (rest := []) X hW hl (C4_outside l N a0 1 30 μ eq1) gX4_stock_X4_outside rfl (by decide +kernel) rfl (by decide) rfl (Nat.le_of_ble_eq_true rfl) dX4_stock_4 (fun H locs hW => ?_)
  refine z_istore_n (pc := 7) (i := 2) X.1 [(2, .int (iO q1)), (0, .ref (ad 9)), (1, .int (iO a0))] hl rfl rfl (by decide) rfl dX4_stock_7 (fun ls hl => ?_)
  refine z_iload_n (pc := 8) X.1 hl 0 rfl rfl dX4_stock_8 ?_
  obtain ⟨g2, h⟩ := z_guard h
  refine z_if_eq (pc := 9) (tgt := 18) X.1 dX4_stock_9 (by decide) g2 h (fun c12 h => ?_) (fun c12 h => ?_)
  · refine z_aload_n (pc := 18) X.1 hl 1 rfl rfl dX4_stock_18 ?_
    refine z_get7 (pc := 19) X.1 hW rfl iX4_stock_7 1 (by decide) rfl (by decide +kernel) dX4_stock_19 ?_
    refine z_aload_n (pc := 22) X.1 hl 1 rfl rfl dX4_stock_22 ?_
    refine z_get7 (pc := 23) X.1 hW rfl iX4_stock_7 0 (by decide) rfl (by decide +kernel) dX4_stock_23 ?_
    obtain ⟨q3, eq3, h⟩ := z_bind h
    refine z_callV3V (pc := 26) (n := 1) (As := [.ref (ad 10)]) (rest := []) X hW hl rfl (C1_takeFrom l N 21 10 rfl rfl μ eq3) gX4_stock_X1_takeFrom rfl (by decide +kernel) rfl (by decide) rfl (Nat.le_of_ble_eq_true rfl) dX4_stock_26 (fun H locs hW => ?_)
    refine z_aload_n (pc := 29) X.1 hl 1 rfl rfl dX4_stock_29 ?_
    refine z_get7 (pc := 30) X.1 hW rfl iX4_stock_7 1 (by decide) rfl (by decide +kernel) dX4_stock_30 ?_
    refine z_sipush (pc := 33) X.1 dX4_stock_33 (by decide) ?_
    obtain ⟨μ4, eμ4, h⟩ := z_bnd h
    refine z_put3_3 (pc := 36) X.1 hW rfl iX4_stock_3 (by decide +kernel) dX4_stock_36 (fun H locs hW => ?_)
    rw [← eμ4] at hW
    refine z_iconst (pc := 39) X.1 dX4_stock_39 ?_
    refine z_istore_n (pc := 40) (i := 3) X.1 [(3, .int (iO 0)), (2, .int (iO q1)), (0, .ref (ad 9)), (1, .int (iO a0))] hl rfl rfl (by decide) rfl dX4_stock_40 (fun ls hl => ?_)
    exact CL4_stock_41 X N N a0 0 μ4 h _ _ ls hW (lv_sub hl [2, 3, 0] rfl)
  · refine z_aload_n (pc := 12) X.1 hl 1 rfl rfl dX4_stock_12 ?_
    refine z_iload_n (pc := 13) X.1 hl 0 rfl rfl dX4_stock_13 ?_
    obtain ⟨q11, eq11, h⟩ := z_bind h
    refine z_callV7I (pc := 14) (n := 1) (As := [.int (iO q1)]) (rest := []) X hW hl rfl (C4_refused l N q1 μ eq11) gX4_stock_X4_refused rfl (by decide +kernel) rfl (by decide) rfl (Nat.le_of_ble_eq_true rfl) dX4_stock_14 (fun H locs hW => ?_)
    exact z_iret (pc := 17) X hW (z_p1 h) (z_p2 h) dX4_stock_17
