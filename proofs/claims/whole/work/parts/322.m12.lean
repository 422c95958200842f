-- X5_counter
theorem iX5_counter_1 : ∀ w ∈ wsX50, w ∈ wsX5_counter := by decide +kernel
section
variable {p : Program} {l : Launch} {e : Env} {s : State} {m : MethodId} {args : Array Value} {below : List Frame} {meth : Method} {c : Code} {D : va_G} {cy : ClassId × ClassId} {ad : Nat → Nat} {A : Nat → Prop} {res : (Int × mm)}
theorem CJ5_counter_128 (X : zX p s m args meth c cX5_counter RX5 wsX5_counter 6 D cy ad (some .int) A) (N : Nat) : ∀ (x1 : Int) (x2 : Int) (μ : mm), J5_counter_128 N x1 x2 μ = some res → ∀ (H : Heap) (locs : List Loc) (ls : Array Slot), zW D cy ad A s.heap μ H locs → lv_has ls 6 [(0, .ref (ad 0)), (1, .int (iO x1)), (2, .int (iO x2))] → W p l e (rmD 7) s m args below meth c H locs 0 0 (MQ below (zQi D cy ad A res.1 res.2) args s 0 0 A) (F0 m 128 ls []) := by
  intro x1 x2 μ h H locs ls hW hl
  rw [J5_counter_128] at h
  refine z_aload_n (pc := 128) X.1 hl 0 rfl rfl dX5_counter_128 ?_
  refine z_iconst (pc := 129) X.1 dX5_counter_129 ?_
  obtain ⟨μ8, eμ8, h⟩ := z_bnd h
  refine z_put1_8 (pc := 130) X.1 hW rfl iX5_counter_1 (by decide +kernel) dX5_counter_130 (fun H locs hW => ?_)
  rw [← eμ8] at hW
  refine z_iload_n (pc := 133) X.1 hl 2 rfl rfl dX5_counter_133 ?_
  refine z_bipush (pc := 134) X.1 dX5_counter_134 (by decide) ?_
  obtain ⟨g9, h⟩ := z_guard h
  refine z_icmp_ne (pc := 136) (tgt := 143) X.1 dX5_counter_136 (by decide) ⟨g9, (by decide)⟩ h (fun c10 h => ?_) (fun c10 h => ?_)
  · refine z_iload_n (pc := 143) X.1 hl 2 rfl rfl dX5_counter_143 ?_
    exact z_iret (pc := 144) X hW (z_p1 h) (z_p2 h) dX5_counter_144
  · refine z_iload_n (pc := 139) X.1 hl 1 rfl rfl dX5_counter_139 ?_
    refine z_goto (pc := 140) (tgt := 144) X.1 dX5_counter_140 (by decide) ?_
    exact z_iret (pc := 144) X hW (z_p1 h) (z_p2 h) dX5_counter_144
theorem CL5_counter_62 (X : zX p s m args meth c cX5_counter RX5 wsX5_counter 6 D cy ad (some .int) A) (N : Nat) : ∀ (k : Nat) (x1 : Int) (x2 : Int) (μ : mm), L5_counter_62 N k x1 x2 μ = some res → ∀ (H : Heap) (locs : List Loc) (ls : Array Slot), zW D cy ad A s.heap μ H locs → lv_has ls 6 [(0, .ref (ad 0)), (1, .int (iO x1)), (2, .int (iO x2))] → W p l e (rmD 7) s m args below meth c H locs 0 0 (MQ below (zQi D cy ad A res.1 res.2) args s 0 0 A) (F0 m 62 ls []) := by
  intro k
  induction k with
  | zero =>
    intro x1 x2 μ h H locs ls hW hl
    exact absurd h (by rw [L5_counter_62]; exact fun z => by cases z)
  | succ k ih =>
    intro x1 x2 μ h H locs ls hW hl
    rw [L5_counter_62] at h
    refine z_iload_n (pc := 62) X.1 hl 2 rfl rfl dX5_counter_62 ?_
    refine z_bipush (pc := 63) X.1 dX5_counter_63 (by decide) ?_
    obtain ⟨g7, h⟩ := z_guard h
    refine z_icmp_ne (pc := 65) (tgt := 128) X.1 dX5_counter_65 (by decide) ⟨g7, (by decide)⟩ h (fun c21 h => ?_) (fun c21 h => ?_)
    · exact CJ5_counter_128 X N x1 x2 μ h _ _ ls hW (lv_sub hl [0, 1, 2] rfl)
    · refine z_aload_n (pc := 68) X.1 hl 0 rfl rfl dX5_counter_68 ?_
      refine z_get1 (pc := 69) X.1 hW rfl iX5_counter_1 10 (by decide) rfl (by decide +kernel) dX5_counter_69 ?_
      refine z_aload_n (pc := 72) X.1 hl 0 rfl rfl dX5_counter_72 ?_
      refine z_get1 (pc := 73) X.1 hW rfl iX5_counter_1 8 (by decide) rfl (by decide +kernel) dX5_counter_73 ?_
      obtain ⟨g11, h⟩ := z_guard h
      refine z_icmp_ge (pc := 76) (tgt := 128) X.1 dX5_counter_76 (by decide) ⟨g11.1, g11.2⟩ h (fun c20 h => ?_) (fun c20 h => ?_)
      · exact CJ5_counter_128 X N x1 x2 μ h _ _ ls hW (lv_sub hl [0, 1, 2] rfl)
      · refine z_aload_n (pc := 79) X.1 hl 0 rfl rfl dX5_counter_79 ?_
        refine z_get1 (pc := 80) X.1 hW rfl iX5_counter_1 10 (by decide) rfl (by decide +kernel) dX5_counter_80 ?_
        obtain ⟨w12, ew12, h⟩ := z_bnd h
        refine z_istore_n (pc := 83) (i := 3) X.1 [(3, .int (iO w12)), (0, .ref (ad 0)), (1, .int (iO x1)), (2, .int (iO x2))] hl ew12 rfl (by decide) rfl dX5_counter_83 (fun ls hl => ?_)
        refine z_aload_n (pc := 84) X.1 hl 1 rfl rfl dX5_counter_84 ?_
        obtain ⟨q13, eq13, h⟩ := z_bind h
        refine z_callV1I (pc := 85) (n := 0) (As := []) (rest := []) X hW hl rfl (C5_here l N  μ eq13) gX5_counter_X5_here rfl (by decide +kernel) rfl (by decide) rfl (Nat.le_of_ble_eq_true rfl) dX5_counter_85 (fun H locs hW => ?_)
        refine z_istore (pc := 88) (i := 4) X.1 [(4, .int (iO q13)), (3, .int (iO w12)), (0, .ref (ad 0)), (1, .int (iO x1)), (2, .int (iO x2))] hl rfl (by decide) rfl dX5_counter_88 (fun ls hl => ?_)
        refine z_aload_n (pc := 90) X.1 hl 2 rfl rfl dX5_counter_90 ?_
        obtain ⟨q14, eq14, h⟩ := z_bind h
        refine z_callV1I (pc := 91) (n := 0) (As := []) (rest := []) X hW hl rfl (C5_readsStatement l N  μ eq14) gX5_counter_X5_readsStatement rfl (by decide +kernel) rfl (by decide) rfl (Nat.le_of_ble_eq_true rfl) dX5_counter_91 (fun H locs hW => ?_)
        refine z_istore (pc := 94) (i := 5) X.1 [(5, .int (iO q14.1)), (4, .int (iO q13)), (3, .int (iO w12)), (0, .ref (ad 0)), (1, .int (iO x1)), (2, .int (iO x2))] hl rfl (by decide) rfl dX5_counter_94 (fun ls hl => ?_)
        refine z_aload_n (pc := 96) X.1 hl 3 rfl rfl dX5_counter_96 ?_
        refine z_iload (pc := 97) X.1 hl 1 rfl dX5_counter_97 ?_
        obtain ⟨q15, eq15, h⟩ := z_bind h
        refine z_callV1I (pc := 99) (n := 1) (As := [.int (iO q13)]) (rest := []) X hW hl rfl (C5_isDone l N q13 q14.2 eq15) gX5_counter_X5_isDone rfl (by decide +kernel) rfl (by decide) rfl (Nat.le_of_ble_eq_true rfl) dX5_counter_99 (fun H locs hW => ?_)
        obtain ⟨g16, h⟩ := z_guard h
        refine z_if_eq (pc := 102) (tgt := 108) X.1 dX5_counter_102 (by decide) g16 h (fun c19 h => ?_) (fun c19 h => ?_)
        · refine z_sipush (pc := 108) X.1 dX5_counter_108 (by decide) ?_
          refine z_iload_n (pc := 111) X.1 hl 2 rfl rfl dX5_counter_111 ?_
          refine z_isub (pc := 112) X.1 dX5_counter_112 ?_
          obtain ⟨w17, ew17, h⟩ := z_bnd h
          refine z_istore_n (pc := 113) (i := 2) X.1 [(2, .int (iO w17)), (5, .int (iO q14.1)), (4, .int (iO q13)), (3, .int (iO w12)), (0, .ref (ad 0)), (1, .int (iO x1))] hl ew17 rfl (by decide) rfl dX5_counter_113 (fun ls hl => ?_)
          refine z_aload_n (pc := 114) X.1 hl 4 rfl rfl dX5_counter_114 ?_
          refine z_get1 (pc := 115) X.1 hW rfl iX5_counter_1 3 (by decide) rfl (by decide +kernel) dX5_counter_115 ?_
          refine z_aload_n (pc := 118) X.1 hl 4 rfl rfl dX5_counter_118 ?_
          refine z_get1 (pc := 119) X.1 hW rfl iX5_counter_1 0 (by decide) rfl (by decide +kernel) dX5_counter_119 ?_
          obtain ⟨q18, eq18, h⟩ := z_bind h
          refine z_callSV (pc := 122) (n := 2) (As := [.ref (ad 4), .ref (ad 1)]) (rest := []) X hW hl (C5_copies l N 4 1 (by decide) (by decide) q15.2 eq18) gX5_counter_X5_copies rfl (by decide +kernel) rfl (by decide) rfl (Nat.le_of_ble_eq_true rfl) dX5_counter_122 (fun H locs hW => ?_)
          refine z_goto (pc := 125) (tgt := 62) X.1 dX5_counter_125 (by decide) ?_
          exact ih x1 w17 q18 h _ _ ls hW (lv_sub hl [4, 5, 0] rfl)
        · refine z_goto (pc := 105) (tgt := 62) X.1 dX5_counter_105 (by decide) ?_
          exact ih x1 x2 q15.2 h _ _ ls hW (lv_sub hl [3, 4, 5] rfl)
theorem CJ5_counter_46 (X : zX p s m args meth c cX5_counter RX5 wsX5_counter 6 D cy ad (some .int) A) (N : Nat) : ∀ (x1 : Int) (x2 : Int) (μ : mm), J5_counter_46 N x1 x2 μ = some res → ∀ (H : Heap) (locs : List Loc) (ls : Array Slot), zW D cy ad A s.heap μ H locs → lv_has ls 6 [(0, .ref (ad 0)), (1, .int (iO x1)), (2, .int (iO x2))] → W p l e (rmD 7) s m args below meth c H locs 0 0 (MQ below (zQi D cy ad A res.1 res.2) args s 0 0 A) (F0 m 46 ls []) := by
  intro x1 x2 μ h H locs ls hW hl
  rw [J5_counter_46] at h
  refine z_aload_n (pc := 46) X.1 hl 0 rfl rfl dX5_counter_46 ?_
  refine z_get1 (pc := 47) X.1 hW rfl iX5_counter_1 0 (by decide) rfl (by decide +kernel) dX5_counter_47 ?_
  refine z_aload_n (pc := 50) X.1 hl 0 rfl rfl dX5_counter_50 ?_
  refine z_get1 (pc := 51) X.1 hW rfl iX5_counter_1 3 (by decide) rfl (by decide +kernel) dX5_counter_51 ?_
  obtain ⟨q5, eq5, h⟩ := z_bind h
  refine z_callSV (pc := 54) (n := 2) (As := [.ref (ad 1), .ref (ad 4)]) (rest := []) X hW hl (C5_copies l N 1 4 (by decide) (by decide) μ eq5) gX5_counter_X5_copies rfl (by decide +kernel) rfl (by decide) rfl (Nat.le_of_ble_eq_true rfl) dX5_counter_54 (fun H locs hW => ?_)
  refine z_aload_n (pc := 57) X.1 hl 0 rfl rfl dX5_counter_57 ?_
  refine z_iconst (pc := 58) X.1 dX5_counter_58 ?_
  obtain ⟨μ6, eμ6, h⟩ := z_bnd h
  refine z_put1_10 (pc := 59) X.1 hW rfl iX5_counter_1 (by decide +kernel) dX5_counter_59 (fun H locs hW => ?_)
  rw [← eμ6] at hW
  exact CL5_counter_62 X N N x1 x2 μ6 h _ _ ls hW (lv_sub hl [0, 1, 2] rfl)
theorem CJ5_counter_26 (X : zX p s m args meth c cX5_counter RX5 wsX5_counter 6 D cy ad (some .int) A) (N : Nat) (rec10 : Int → Int → mm → Option (Int × mm)) (hrec10 : ∀ (x1 : Int) (x2 : Int) (μ : mm), rec10 x1 x2 μ = some res → ∀ (H : Heap) (locs : List Loc) (ls : Array Slot), zW D cy ad A s.heap μ H locs → lv_has ls 6 [(0, .ref (ad 0)), (1, .int (iO x1)), (2, .int (iO x2))] → W p l e (rmD 7) s m args below meth c H locs 0 0 (MQ below (zQi D cy ad A res.1 res.2) args s 0 0 A) (F0 m 10 ls [])) : ∀ (x1 : Int) (x2 : Int) (μ : mm), J5_counter_26 N rec10 x1 x2 μ = some res → ∀ (H : Heap) (locs : List Loc) (ls : Array Slot), zW D cy ad A s.heap μ H locs → lv_has ls 6 [(0, .ref (ad 0)), (1, .int (iO x1)), (2, .int (iO x2))] → W p l e (rmD 7) s m args below meth c H locs 0 0 (MQ below (zQi D cy ad A res.1 res.2) args s 0 0 A) (F0 m 26 ls []) := by
  intro x1 x2 μ h H locs ls hW hl
  rw [J5_counter_26] at h
  refine z_iinc (pc := 26) (i := 1) X.1 [(1, .int (iO (x1 + 1))), (0, .ref (ad 0)), (2, .int (iO x2))] hl 1 rfl rfl (by decide) rfl dX5_counter_26 (fun ls hl => ?_)
  refine z_iload_n (pc := 29) X.1 hl 2 rfl rfl dX5_counter_29 ?_
  refine z_bipush (pc := 30) X.1 dX5_counter_30 (by decide) ?_
  obtain ⟨g4, h⟩ := z_guard h
  refine z_icmp_ne (pc := 32) (tgt := 46) X.1 dX5_counter_32 (by decide) ⟨g4, (by decide)⟩ h (fun c24 h => ?_) (fun c24 h => ?_)
  · exact CJ5_counter_46 X N (x1 + 1) x2 μ h _ _ ls hW (lv_sub hl [1, 0, 2] rfl)
  · refine z_aload_n (pc := 35) X.1 hl 1 rfl rfl dX5_counter_35 ?_
    refine z_get1 (pc := 36) X.1 hW rfl iX5_counter_1 10 (by decide) rfl (by decide +kernel) dX5_counter_36 ?_
    refine z_aload_n (pc := 39) X.1 hl 1 rfl rfl dX5_counter_39 ?_
    refine z_get1 (pc := 40) X.1 hW rfl iX5_counter_1 8 (by decide) rfl (by decide +kernel) dX5_counter_40 ?_
    obtain ⟨g22, h⟩ := z_guard h
    refine z_icmp_lt (pc := 43) (tgt := 10) X.1 dX5_counter_43 (by decide) ⟨g22.1, g22.2⟩ h (fun c23 h => ?_) (fun c23 h => ?_)
    · exact hrec10 (x1 + 1) x2 μ h _ _ ls hW (lv_sub hl [1, 0, 2] rfl)
    · exact CJ5_counter_46 X N (x1 + 1) x2 μ h _ _ ls hW (lv_sub hl [1, 0, 2] rfl)
theorem CL5_counter_10 (X : zX p s m args meth c cX5_counter RX5 wsX5_counter 6 D cy ad (some .int) A) (N : Nat) : ∀ (k : Nat) (x1 : Int) (x2 : Int) (μ : mm), L5_counter_10 N k x1 x2 μ = some res → ∀ (H : Heap) (locs : List Loc) (ls : Array Slot), zW D cy ad A s.heap μ H locs → lv_has ls 6 [(0, .ref (ad 0)), (1, .int (iO x1)), (2, .int (iO x2))] → W p l e (rmD 7) s m args below meth c H locs 0 0 (MQ below (zQi D cy ad A res.1 res.2) args s 0 0 A) (F0 m 10 ls []) := by
  intro k
  induction k with
  | zero =>
    intro x1 x2 μ h H locs ls hW hl
    exact absurd h (by rw [L5_counter_10]; exact fun z => by cases z)
  | succ k ih =>
    intro x1 x2 μ h H locs ls hW hl
    rw [L5_counter_10] at h
    refine z_aload_n (pc := 10) X.1 hl 0 rfl rfl dX5_counter_10 ?_
    obtain ⟨q2, eq2, h⟩ := z_bind h
    refine z_callV1I (pc := 11) (n := 0) (As := []) (rest := []) X hW hl rfl (C5_readsStatement l N  μ eq2) gX5_counter_X5_readsStatement rfl (by decide +kernel) rfl (by decide) rfl (Nat.le_of_ble_eq_true rfl) dX5_counter_11 (fun H locs hW => ?_)
    obtain ⟨g3, h⟩ := z_guard h
    refine z_if_ne (pc := 14) (tgt := 26) X.1 dX5_counter_14 (by decide) g3 h (fun c26 h => ?_) (fun c26 h => ?_)
    · exact CJ5_counter_26 X N (L5_counter_10 N k) ih x1 x2 q2.2 h _ _ ls hW (lv_sub hl [0, 1, 2] rfl)
    · refine z_sipush (pc := 17) X.1 dX5_counter_17 (by decide) ?_
      refine z_aload_n (pc := 20) X.1 hl 0 rfl rfl dX5_counter_20 ?_
      refine z_get1 (pc := 21) X.1 hW rfl iX5_counter_1 10 (by decide) rfl (by decide +kernel) dX5_counter_21 ?_
      refine z_isub (pc := 24) X.1 dX5_counter_24 ?_
      obtain ⟨w25, ew25, h⟩ := z_bnd h
      refine z_istore_n (pc := 25) (i := 2) X.1 [(2, .int (iO w25)), (0, .ref (ad 0)), (1, .int (iO x1))] hl ew25 rfl (by decide) rfl dX5_counter_25 (fun ls hl => ?_)
      exact CJ5_counter_26 X N (L5_counter_10 N k) ih x1 w25 q2.2 h _ _ ls hW (lv_sub hl [1, 2, 0] rfl)
end
theorem C5_counter (l : Launch) {D : va_G} {cy : ClassId × ClassId} {ad : Nat → Nat} (N : Nat)  (μ : mm) {res : (Int × mm)} (h : M5_counter N μ = some res) : zI l yX5_counter wsX5_counter 7 D cy ad [.ref (ad 0)] μ res.1 res.2 := by
  refine zI.of RX5 rfl (by decide) rfl (Nat.le_of_ble_eq_true rfl) ?_
  intro p e s m args below meth c A X hW ls hl
  have hl : lv_has ls 6 [(0, .ref (ad 0))] := hl
  unfold M5_counter at h
  refine z_aload_n (pc := 0) X.1 hl 0 rfl rfl dX5_counter_0 ?_
  refine z_iconst (pc := 1) X.1 dX5_counter_1 ?_
  obtain ⟨μ1, eμ1, h⟩ := z_bnd h
  refine z_put1_10 (pc := 2) X.1 hW rfl iX5_counter_1 (by decide +kernel) dX5_counter_2 (fun H locs hW => ?_)
  rw [← eμ1] at hW
  refine z_iconst (pc := 5) X.1 dX5_counter_5 ?_
  refine z_istore_n (pc := 6) (i := 1) X.1 [(1, .int (iO 0)), (0, .ref (ad 0))] hl rfl rfl (by decide) rfl dX5_counter_6 (fun ls hl => ?_)
  refine z_bipush (pc := 7) X.1 dX5_counter_7 (by decide) ?_
  refine z_istore_n (pc := 9) (i := 2) X.1 [(2, .int (iO (-9))), (1, .int (iO 0)), (0, .ref (ad 0))] hl rfl rfl (by decide) rfl dX5_counter_9 (fun ls hl => ?_)
  exact CL5_counter_10 X N N 0 (-9) μ1 h _ _ ls hW (lv_sub hl [2, 1, 0] rfl)
-- X5_person
theorem iX5_person_1 : ∀ w ∈ wsX50, w ∈ wsX5_person := by decide +kernel
theorem C5_person (l : Launch) {D : va_G} {cy : ClassId × ClassId} {ad : Nat → Nat} (N : Nat) (a0 : Int) (a1 : Int) (μ : mm) {res : (Int × mm)} (h : M5_person N a0 a1 μ = some res) : zI l yX5_person wsX5_person 3 D cy ad [.ref (ad 0), .int (iO a0), .int (iO a1)] μ res.1 res.2 := by
  refine zI.of RX5 rfl (by decide) rfl (Nat.le_of_ble_eq_true rfl) ?_
  intro p e s m args below meth c A X hW ls hl
  have hl : lv_has ls 3 [(0, .ref (ad 0)), (1, .int (iO a0)), (2, .int (iO a1))] := hl
  unfold M5_person at h
  refine z_aload_n (pc := 0) X.1 hl 0 rfl rfl dX5_person_0 ?_
  refine z_iload_n (pc := 1) X.1 hl 1 rfl rfl dX5_person_1 ?_
  obtain ⟨q1, eq1, h⟩ := z_bind h
  refine z_callV1I (pc := 2) (n := 1) (As := [.int (iO a0)]) (rest := []) X hW hl rfl (C5_isOne l N a0 μ eq1) gX5_person_X5_isOne rfl (by decide +kernel) rfl (by decide) rfl (Nat.le_of_ble_eq_true rfl) dX5_person_2 (fun H locs hW => ?_)
  obtain ⟨g2, h⟩ := z_guard h
  refine z_if_ne (pc := 5) (tgt := 14) X.1 dX5_person_5 (by decide) g2 h (fun c15 h => ?_) (fun c15 h => ?_)
  · refine z_iload_n (pc := 14) X.1 hl 2 rfl rfl dX5_person_14 ?_
    refine z_iconst (pc := 15) X.1 dX5_person_15 ?_
    refine z_iconst (pc := 16) X.1 dX5_person_16 ?_
    obtain ⟨q3, eq3, h⟩ := z_bind h
    refine z_callSI (pc := 17) (n := 3) (As := [.int (iO a1), .int (iO 0), .int (iO 5)]) (rest := []) X hW hl (C5_isIn l N a1 0 5 μ eq3) gX5_person_X5_isIn rfl (by decide +kernel) rfl (by decide) rfl (Nat.le_of_ble_eq_true rfl) dX5_person_17 (fun H locs hW => ?_)
    obtain ⟨g4, h⟩ := z_guard h
    refine z_if_eq (pc := 20) (tgt := 34) X.1 dX5_person_20 (by decide) g4 h (fun c13 h => ?_) (fun c13 h => ?_)
    · refine z_iload_n (pc := 34) X.1 hl 2 rfl rfl dX5_person_34 ?_
      refine z_bipush (pc := 35) X.1 dX5_person_35 (by decide) ?_
      obtain ⟨g5, h⟩ := z_guard h
      refine z_icmp_ne (pc := 37) (tgt := 51) X.1 dX5_person_37 (by decide) ⟨g5, (by decide)⟩ h (fun c11 h => ?_) (fun c11 h => ?_)
      · refine z_iload_n (pc := 51) X.1 hl 2 rfl rfl dX5_person_51 ?_
        refine z_bipush (pc := 52) X.1 dX5_person_52 (by decide) ?_
        obtain ⟨g6, h⟩ := z_guard h
        refine z_icmp_ne (pc := 54) (tgt := 68) X.1 dX5_person_54 (by decide) ⟨g6, (by decide)⟩ h (fun c9 h => ?_) (fun c9 h => ?_)
        · refine z_aload_n (pc := 68) X.1 hl 0 rfl rfl dX5_person_68 ?_
          refine z_bipush (pc := 69) X.1 dX5_person_69 (by decide) ?_
          obtain ⟨q7, eq7, h⟩ := z_bind h
          refine z_callV1I (pc := 71) (n := 1) (As := [.int (iO (-2))]) (rest := []) X hW hl rfl (C5_no l N (-2) μ eq7) gX5_person_X5_no rfl (by decide +kernel) rfl (by decide) rfl (Nat.le_of_ble_eq_true rfl) dX5_person_71 (fun H locs hW => ?_)
          exact z_iret (pc := 74) X hW (z_p1 h) (z_p2 h) dX5_person_74
        · refine z_aload_n (pc := 57) X.1 hl 0 rfl rfl dX5_person_57 ?_
          refine z_get1 (pc := 58) X.1 hW rfl iX5_person_1 0 (by decide) rfl (by decide +kernel) dX5_person_58 ?_
          refine z_iload_n (pc := 61) X.1 hl 1 rfl rfl dX5_person_61 ?_
          obtain ⟨q8, eq8, h⟩ := z_bind h
          refine z_callSI (pc := 62) (n := 2) (As := [.ref (ad 1), .int (iO a0)]) (rest := []) X hW hl (C5_lacksIn l N 1 a0 (by decide) μ eq8) gX5_person_X5_lacksIn rfl (by decide +kernel) rfl (by decide) rfl (Nat.le_of_ble_eq_true rfl) dX5_person_62 (fun H locs hW => ?_)
          refine z_goto (pc := 65) (tgt := 74) X.1 dX5_person_65 (by decide) ?_
          exact z_iret (pc := 74) X hW (z_p1 h) (z_p2 h) dX5_person_74
      · refine z_aload_n (pc := 40) X.1 hl 0 rfl rfl dX5_person_40 ?_
        refine z_get1 (pc := 41) X.1 hW rfl iX5_person_1 0 (by decide) rfl (by decide +kernel) dX5_person_41 ?_
        refine z_iload_n (pc := 44) X.1 hl 1 rfl rfl dX5_person_44 ?_
        obtain ⟨q10, eq10, h⟩ := z_bind h
        refine z_callSI (pc := 45) (n := 2) (As := [.ref (ad 1), .int (iO a0)]) (rest := []) X hW hl (C5_needs l N 1 a0 (by decide) μ eq10) gX5_person_X5_needs rfl (by decide +kernel) rfl (by decide) rfl (Nat.le_of_ble_eq_true rfl) dX5_person_45 (fun H locs hW => ?_)
        refine z_goto (pc := 48) (tgt := 74) X.1 dX5_person_48 (by decide) ?_
        exact z_iret (pc := 74) X hW (z_p1 h) (z_p2 h) dX5_person_74
    · refine z_aload_n (pc := 23) X.1 hl 0 rfl rfl dX5_person_23 ?_
      refine z_get1 (pc := 24) X.1 hW rfl iX5_person_1 0 (by decide) rfl (by decide +kernel) dX5_person_24 ?_
      refine z_iload_n (pc := 27) X.1 hl 1 rfl rfl dX5_person_27 ?_
      refine z_iload_n (pc := 28) X.1 hl 2 rfl rfl dX5_person_28 ?_
      refine z_callSI (pc := 29) (n := 2) (As := [.int (iO a0), .int (iO a1)]) (rest := [.ref (ad 1)]) X hW hl (C5_of l N a0 a1 μ) gX5_person_X5_of rfl (by decide +kernel) rfl (by decide) rfl (Nat.le_of_ble_eq_true rfl) dX5_person_29 (fun H locs hW => ?_)
      obtain ⟨g12, h⟩ := z_guard h
      refine z_iald (pc := 32) X.1 hW rfl ⟨g12.1, g12.2⟩ dX5_person_32 ?_
      exact z_iret (pc := 33) X hW (z_p1 h) (z_p2 h) dX5_person_33
  · refine z_aload_n (pc := 8) X.1 hl 0 rfl rfl dX5_person_8 ?_
    refine z_iconst (pc := 9) X.1 dX5_person_9 ?_
    obtain ⟨q14, eq14, h⟩ := z_bind h
    refine z_callV1I (pc := 10) (n := 1) (As := [.int (iO (-1))]) (rest := []) X hW hl rfl (C5_no l N (-1) μ eq14) gX5_person_X5_no rfl (by decide +kernel) rfl (by decide) rfl (Nat.le_of_ble_eq_true rfl) dX5_person_10 (fun H locs hW => ?_)
    exact z_iret (pc := 13) X hW (z_p1 h) (z_p2 h) dX5_person_13
-- X5_wrongBy
theorem C5_wrongBy (l : Launch) {D : va_G} {cy : ClassId × ClassId} {ad : Nat → Nat} (N : Nat) (a0 : Int) (a1 : Int) (a2 : Int) (μ0 : mm) {res : Int} (h : M5_wrongBy N a0 a1 a2 μ0 = some res) : zI l yX5_wrongBy wsX5_wrongBy 0 D cy ad [.int (iO a0), .int (iO a1), .int (iO a2)] μ0 res μ0 := by
  refine zI.of RX5 rfl (by decide) rfl (Nat.le_of_ble_eq_true rfl) ?_
  intro p e s m args below meth c A X hW ls hl
  have hl : lv_has ls 3 [(0, .int (iO a0)), (1, .int (iO a1)), (2, .int (iO a2))] := hl
  unfold M5_wrongBy at h
  refine z_iload_n (pc := 0) X.1 hl 0 rfl rfl dX5_wrongBy_0 ?_
  refine z_iload_n (pc := 1) X.1 hl 1 rfl rfl dX5_wrongBy_1 ?_
  obtain ⟨g1, h⟩ := z_guard h
  refine z_icmp_ge (pc := 2) (tgt := 10) X.1 dX5_wrongBy_2 (by decide) ⟨g1.1, g1.2⟩ h (fun c4 h => ?_) (fun c4 h => ?_)
  · refine z_iload_n (pc := 10) X.1 hl 0 rfl rfl dX5_wrongBy_10 ?_
    refine z_iload_n (pc := 11) X.1 hl 2 rfl rfl dX5_wrongBy_11 ?_
    obtain ⟨g2, h⟩ := z_guard h
    refine z_icmp_le (pc := 12) (tgt := 20) X.1 dX5_wrongBy_12 (by decide) ⟨g2.1, g2.2⟩ h (fun c3 h => ?_) (fun c3 h => ?_)
    · refine z_iconst (pc := 20) X.1 dX5_wrongBy_20 ?_
      exact z_iret (pc := 21) X hW (Option.some.inj h) rfl dX5_wrongBy_21
    · refine z_bipush (pc := 15) X.1 dX5_wrongBy_15 (by decide) ?_
      refine z_goto (pc := 17) (tgt := 21) X.1 dX5_wrongBy_17 (by decide) ?_
      exact z_iret (pc := 21) X hW (Option.some.inj h) rfl dX5_wrongBy_21
  · refine z_bipush (pc := 5) X.1 dX5_wrongBy_5 (by decide) ?_
    refine z_goto (pc := 7) (tgt := 21) X.1 dX5_wrongBy_7 (by decide) ?_
    exact z_iret (pc := 21) X hW (Option.some.inj h) rfl dX5_wrongBy_21
-- X5_issues
theorem iX5_issues_1 : ∀ w ∈ wsX50, w ∈ wsX5_issues := by decide +kernel
section
variable {p : Program} {l : Launch} {e : Env} {s : State} {m : MethodId} {args : Array Value} {below : List Frame} {meth : Method} {c : Code} {D : va_G} {cy : ClassId × ClassId} {ad : Nat → Nat} {A : Nat → Prop} {res : (Int × mm)}
theorem CJ5_issues_54 (X : zX p s m args meth c cX5_issues RX5 wsX5_issues 4 D cy ad (some .int) A) (N : Nat) : ∀ (x1 : Int) (x2 : Int) (x3 : Int) (μ : mm), J5_issues_54 N x1 x2 x3 μ = some res → ∀ (H : Heap) (locs : List Loc) (ls : Array Slot), zW D cy ad A s.heap μ H locs → lv_has ls 4 [(0, .ref (ad 0)), (1, .int (iO x1)), (2, .int (iO x2)), (3, .int (iO x3))] → W p l e (rmD 2) s m args below meth c H locs 0 0 (MQ below (zQi D cy ad A res.1 res.2) args s 0 0 A) (F0 m 54 ls []) := by
  intro x1 x2 x3 μ h H locs ls hW hl
  rw [J5_issues_54] at h
  refine z_iload_n (pc := 54) X.1 hl 3 rfl rfl dX5_issues_54 ?_
  obtain ⟨g4, h⟩ := z_guard h
  refine z_if_eq (pc := 55) (tgt := 64) X.1 dX5_issues_55 (by decide) g4 h (fun c7 h => ?_) (fun c7 h => ?_)
  · refine z_aload_n (pc := 64) X.1 hl 0 rfl rfl dX5_issues_64 ?_
    refine z_get1 (pc := 65) X.1 hW rfl iX5_issues_1 0 (by decide) rfl (by decide +kernel) dX5_issues_65 ?_
    refine z_iload_n (pc := 68) X.1 hl 1 rfl rfl dX5_issues_68 ?_
    refine z_iload_n (pc := 69) X.1 hl 2 rfl rfl dX5_issues_69 ?_
    obtain ⟨q5, eq5, h⟩ := z_bind h
    refine z_callSV (pc := 70) (n := 3) (As := [.ref (ad 1), .int (iO x1), .int (iO x2)]) (rest := []) X hW hl (C5_issuesIn l N 1 x1 x2 (by decide) μ eq5) gX5_issues_X5_issuesIn rfl (by decide +kernel) rfl (by decide) rfl (Nat.le_of_ble_eq_true rfl) dX5_issues_70 (fun H locs hW => ?_)
    refine z_aload_n (pc := 73) X.1 hl 0 rfl rfl dX5_issues_73 ?_
    refine z_get1 (pc := 74) X.1 hW rfl iX5_issues_1 0 (by decide) rfl (by decide +kernel) dX5_issues_74 ?_
    refine z_iconst (pc := 77) X.1 dX5_issues_77 ?_
    refine z_iald (pc := 78) X.1 hW rfl ⟨(by decide), (by decide)⟩ dX5_issues_78 ?_
    exact z_iret (pc := 79) X hW (z_p1 h) (z_p2 h) dX5_issues_79
  · refine z_aload_n (pc := 58) X.1 hl 0 rfl rfl dX5_issues_58 ?_
    refine z_iload_n (pc := 59) X.1 hl 3 rfl rfl dX5_issues_59 ?_
    obtain ⟨q6, eq6, h⟩ := z_bind h
    refine z_callV1I (pc := 60) (n := 1) (As := [.int (iO x3)]) (rest := []) X hW hl rfl (C5_no l N x3 μ eq6) gX5_issues_X5_no rfl (by decide +kernel) rfl (by decide) rfl (Nat.le_of_ble_eq_true rfl) dX5_issues_60 (fun H locs hW => ?_)
    exact z_iret (pc := 63) X hW (z_p1 h) (z_p2 h) dX5_issues_63
theorem CJ5_issues_51 (X : zX p s m args meth c cX5_issues RX5 wsX5_issues 4 D cy ad (some .int) A) (N : Nat) : ∀ (x1 : Int) (x2 : Int) (μ : mm), J5_issues_51 N x1 x2 μ = some res → ∀ (H : Heap) (locs : List Loc) (ls : Array Slot), zW D cy ad A s.heap μ H locs → lv_has ls 4 [(0, .ref (ad 0)), (1, .int (iO x1)), (2, .int (iO x2))] → W p l e (rmD 2) s m args below meth c H locs 0 0 (MQ below (zQi D cy ad A res.1 res.2) args s 0 0 A) (F0 m 51 ls []) := by
  intro x1 x2 μ h H locs ls hW hl
  rw [J5_issues_51] at h
  refine z_bipush (pc := 51) X.1 dX5_issues_51 (by decide) ?_
  refine z_istore_n (pc := 53) (i := 3) X.1 [(3, .int (iO (-3))), (0, .ref (ad 0)), (1, .int (iO x1)), (2, .int (iO x2))] hl rfl rfl (by decide) rfl dX5_issues_53 (fun ls hl => ?_)
  exact CJ5_issues_54 X N x1 x2 (-3) μ h _ _ ls hW (lv_sub hl [1, 2, 3, 0] rfl)
theorem CJ5_issues_19 (X : zX p s m args meth c cX5_issues RX5 wsX5_issues 4 D cy ad (some .int) A) (N : Nat) : ∀ (x1 : Int) (x2 : Int) (y0 : Int) (μ : mm), J5_issues_19 N x1 x2 y0 μ = some res → ∀ (H : Heap) (locs : List Loc) (ls : Array Slot), zW D cy ad A s.heap μ H locs → lv_has ls 4 [(0, .ref (ad 0)), (1, .int (iO x1)), (2, .int (iO x2))] → W p l e (rmD 2) s m args below meth c H locs 0 0 (MQ below (zQi D cy ad A res.1 res.2) args s 0 0 A) (F0 m 19 ls [.int (iO y0)]) := by
  intro x1 x2 y0 μ h H locs ls hW hl
  rw [J5_issues_19] at h
  refine z_istore_n (pc := 19) (i := 3) X.1 [(3, .int (iO y0)), (0, .ref (ad 0)), (1, .int (iO x1)), (2, .int (iO x2))] hl rfl rfl (by decide) rfl dX5_issues_19 (fun ls hl => ?_)
  refine z_iload_n (pc := 20) X.1 hl 0 rfl rfl dX5_issues_20 ?_
  obtain ⟨g3, h⟩ := z_guard h
  refine z_if_ne (pc := 21) (tgt := 54) X.1 dX5_issues_21 (by decide) g3 h (fun c13 h => ?_) (fun c13 h => ?_)
  · exact CJ5_issues_54 X N x1 x2 y0 μ h _ _ ls hW (lv_sub hl [1, 2, 3, 0] rfl)
  · refine z_iload_n (pc := 24) X.1 hl 3 rfl rfl dX5_issues_24 ?_
    refine z_aload_n (pc := 25) X.1 hl 1 rfl rfl dX5_issues_25 ?_
    refine z_get1 (pc := 26) X.1 hW rfl iX5_issues_1 0 (by decide) rfl (by decide +kernel) dX5_issues_26 ?_
    refine z_iconst (pc := 29) X.1 dX5_issues_29 ?_
    refine z_iald (pc := 30) X.1 hW rfl ⟨(by decide), (by decide)⟩ dX5_issues_30 ?_
    obtain ⟨g8, h⟩ := z_guard h
    refine z_icmp_gt (pc := 31) (tgt := 51) X.1 dX5_issues_31 (by decide) ⟨g8.1, g8.2⟩ h (fun c12 h => ?_) (fun c12 h => ?_)
    · exact CJ5_issues_51 X N x1 x2 μ h _ _ ls hW (lv_sub hl [1, 2, 3] rfl)
    · refine z_aload_n (pc := 34) X.1 hl 1 rfl rfl dX5_issues_34 ?_
      refine z_get1 (pc := 35) X.1 hW rfl iX5_issues_1 0 (by decide) rfl (by decide +kernel) dX5_issues_35 ?_
      refine z_iload_n (pc := 38) X.1 hl 2 rfl rfl dX5_issues_38 ?_
      refine z_iconst (pc := 39) X.1 dX5_issues_39 ?_
      refine z_callSI (pc := 40) (n := 2) (As := [.int (iO x1), .int (iO 2)]) (rest := [.ref (ad 1)]) X hW hl (C5_of l N x1 2 μ) gX5_issues_X5_of rfl (by decide +kernel) rfl (by decide) rfl (Nat.le_of_ble_eq_true rfl) dX5_issues_40 (fun H locs hW => ?_)
      obtain ⟨g9, h⟩ := z_guard h
      refine z_iald (pc := 43) X.1 hW rfl ⟨g9.1, g9.2⟩ dX5_issues_43 ?_
      refine z_iload_n (pc := 44) X.1 hl 3 rfl rfl dX5_issues_44 ?_
      refine z_iadd (pc := 45) X.1 dX5_issues_45 ?_
      refine z_bipush (pc := 46) X.1 dX5_issues_46 (by decide) ?_
      obtain ⟨g10, h⟩ := z_guard h
      refine z_icmp_le (pc := 48) (tgt := 54) X.1 dX5_issues_48 (by decide) ⟨g10, (by decide)⟩ h (fun c11 h => ?_) (fun c11 h => ?_)
      · exact CJ5_issues_54 X N x1 x2 y0 μ h _ _ ls hW (lv_sub hl [1, 2, 3, 0] rfl)
      · exact CJ5_issues_51 X N x1 x2 μ h _ _ ls hW (lv_sub hl [1, 2, 3] rfl)
end
theorem C5_issues (l : Launch) {D : va_G} {cy : ClassId × ClassId} {ad : Nat → Nat} (N : Nat) (a0 : Int) (a1 : Int) (μ : mm) {res : (Int × mm)} (h : M5_issues N a0 a1 μ = some res) : zI l yX5_issues wsX5_issues 2 D cy ad [.ref (ad 0), .int (iO a0), .int (iO a1)] μ res.1 res.2 := by
  refine zI.of RX5 rfl (by decide) rfl (Nat.le_of_ble_eq_true rfl) ?_
  intro p e s m args below meth c A X hW ls hl
  have hl : lv_has ls 4 [(0, .ref (ad 0)), (1, .int (iO a0)), (2, .int (iO a1))] := hl
  unfold M5_issues at h
  refine z_aload_n (pc := 0) X.1 hl 0 rfl rfl dX5_issues_0 ?_
  refine z_iload_n (pc := 1) X.1 hl 1 rfl rfl dX5_issues_1 ?_
  obtain ⟨q1, eq1, h⟩ := z_bind h
  refine z_callV1I (pc := 2) (n := 1) (As := [.int (iO a0)]) (rest := []) X hW hl rfl (C5_isOne l N a0 μ eq1) gX5_issues_X5_isOne rfl (by decide +kernel) rfl (by decide) rfl (Nat.le_of_ble_eq_true rfl) dX5_issues_2 (fun H locs hW => ?_)
  obtain ⟨g2, h⟩ := z_guard h
  refine z_if_eq (pc := 5) (tgt := 18) X.1 dX5_issues_5 (by decide) g2 h (fun c15 h => ?_) (fun c15 h => ?_)
  · refine z_iconst (pc := 18) X.1 dX5_issues_18 ?_
    exact CJ5_issues_19 X N a0 a1 (-1) μ h _ _ ls hW (lv_sub hl [0, 1, 2] rfl)
  · refine z_iload_n (pc := 8) X.1 hl 2 rfl rfl dX5_issues_8 ?_
    refine z_iconst (pc := 9) X.1 dX5_issues_9 ?_
    refine z_bipush (pc := 10) X.1 dX5_issues_10 (by decide) ?_
    obtain ⟨q14, eq14, h⟩ := z_bind h
    refine z_callSI (pc := 12) (n := 3) (As := [.int (iO a1), .int (iO 0), .int (iO 99)]) (rest := []) X hW hl (C5_wrongBy l N a1 0 99 μ eq14) gX5_issues_X5_wrongBy rfl (by decide +kernel) rfl (by decide) rfl (Nat.le_of_ble_eq_true rfl) dX5_issues_12 (fun H locs hW => ?_)
    refine z_goto (pc := 15) (tgt := 19) X.1 dX5_issues_15 (by decide) ?_
    exact CJ5_issues_19 X N a0 a1 q14 μ h _ _ ls hW (lv_sub hl [0, 1, 2] rfl)
-- X5_returns
theorem iX5_returns_1 : ∀ w ∈ wsX50, w ∈ wsX5_returns := by decide +kernel
theorem C5_returns (l : Launch) {D : va_G} {cy : ClassId × ClassId} {ad : Nat → Nat} (N : Nat) (a0 : Int) (μ : mm) {res : (Int × mm)} (h : M5_returns N a0 μ = some res) : zI l yX5_returns wsX5_returns 3 D cy ad [.ref (ad 0), .int (iO a0)] μ res.1 res.2 := by
  refine zI.of RX5 rfl (by decide) rfl (Nat.le_of_ble_eq_true rfl) ?_
  intro p e s m args below meth c A X hW ls hl
  have hl : lv_has ls 2 [(0, .ref (ad 0)), (1, .int (iO a0))] := hl
  unfold M5_returns at h
  refine z_aload_n (pc := 0) X.1 hl 0 rfl rfl dX5_returns_0 ?_
  refine z_iload_n (pc := 1) X.1 hl 1 rfl rfl dX5_returns_1 ?_
  obtain ⟨q1, eq1, h⟩ := z_bind h
  refine z_callV1I (pc := 2) (n := 1) (As := [.int (iO a0)]) (rest := []) X hW hl rfl (C5_isOne l N a0 μ eq1) gX5_returns_X5_isOne rfl (by decide +kernel) rfl (by decide) rfl (Nat.le_of_ble_eq_true rfl) dX5_returns_2 (fun H locs hW => ?_)
  obtain ⟨g2, h⟩ := z_guard h
  refine z_if_ne (pc := 5) (tgt := 14) X.1 dX5_returns_5 (by decide) g2 h (fun c9 h => ?_) (fun c9 h => ?_)
  · refine z_aload_n (pc := 14) X.1 hl 0 rfl rfl dX5_returns_14 ?_
    refine z_get1 (pc := 15) X.1 hW rfl iX5_returns_1 0 (by decide) rfl (by decide +kernel) dX5_returns_15 ?_
    refine z_iload_n (pc := 18) X.1 hl 1 rfl rfl dX5_returns_18 ?_
    refine z_iconst (pc := 19) X.1 dX5_returns_19 ?_
    refine z_callSI (pc := 20) (n := 2) (As := [.int (iO a0), .int (iO 2)]) (rest := [.ref (ad 1)]) X hW hl (C5_of l N a0 2 μ) gX5_returns_X5_of rfl (by decide +kernel) rfl (by decide) rfl (Nat.le_of_ble_eq_true rfl) dX5_returns_20 (fun H locs hW => ?_)
    obtain ⟨g3, h⟩ := z_guard h
    refine z_iald (pc := 23) X.1 hW rfl ⟨g3.1, g3.2⟩ dX5_returns_23 ?_
    obtain ⟨g4, h⟩ := z_guard h
    refine z_if_ne (pc := 24) (tgt := 34) X.1 dX5_returns_24 (by decide) g4 h (fun c7 h => ?_) (fun c7 h => ?_)
    · refine z_aload_n (pc := 34) X.1 hl 0 rfl rfl dX5_returns_34 ?_
      refine z_get1 (pc := 35) X.1 hW rfl iX5_returns_1 0 (by decide) rfl (by decide +kernel) dX5_returns_35 ?_
      refine z_iload_n (pc := 38) X.1 hl 1 rfl rfl dX5_returns_38 ?_
      obtain ⟨q5, eq5, h⟩ := z_bind h
      refine z_callSV (pc := 39) (n := 2) (As := [.ref (ad 1), .int (iO a0)]) (rest := []) X hW hl (C5_handsIn l N 1 a0 (by decide) μ eq5) gX5_returns_X5_handsIn rfl (by decide +kernel) rfl (by decide) rfl (Nat.le_of_ble_eq_true rfl) dX5_returns_39 (fun H locs hW => ?_)
      refine z_aload_n (pc := 42) X.1 hl 0 rfl rfl dX5_returns_42 ?_
      refine z_get1 (pc := 43) X.1 hW rfl iX5_returns_1 0 (by decide) rfl (by decide +kernel) dX5_returns_43 ?_
      refine z_iconst (pc := 46) X.1 dX5_returns_46 ?_
      refine z_iald (pc := 47) X.1 hW rfl ⟨(by decide), (by decide)⟩ dX5_returns_47 ?_
      exact z_iret (pc := 48) X hW (z_p1 h) (z_p2 h) dX5_returns_48
    · refine z_aload_n (pc := 27) X.1 hl 0 rfl rfl dX5_returns_27 ?_
      refine z_bipush (pc := 28) X.1 dX5_returns_28 (by decide) ?_
      obtain ⟨q6, eq6, h⟩ := z_bind h
      refine z_callV1I (pc := 30) (n := 1) (As := [.int (iO (-3))]) (rest := []) X hW hl rfl (C5_no l N (-3) μ eq6) gX5_returns_X5_no rfl (by decide +kernel) rfl (by decide) rfl (Nat.le_of_ble_eq_true rfl) dX5_returns_30 (fun H locs hW => ?_)
      exact z_iret (pc := 33) X hW (z_p1 h) (z_p2 h) dX5_returns_33
  · refine z_aload_n (pc := 8) X.1 hl 0 rfl rfl dX5_returns_8 ?_
    refine z_iconst (pc := 9) X.1 dX5_returns_9 ?_
    obtain ⟨q8, eq8, h⟩ := z_bind h
    refine z_callV1I (pc := 10) (n := 1) (As := [.int (iO (-1))]) (rest := []) X hW hl rfl (C5_no l N (-1) μ eq8) gX5_returns_X5_no rfl (by decide +kernel) rfl (by decide) rfl (Nat.le_of_ble_eq_true rfl) dX5_returns_10 (fun H locs hW => ?_)
    exact z_iret (pc := 13) X hW (z_p1 h) (z_p2 h) dX5_returns_13
-- X5_due
theorem iX5_due_1 : ∀ w ∈ wsX50, w ∈ wsX5_due := by decide +kernel
section
variable {p : Program} {l : Launch} {e : Env} {s : State} {m : MethodId} {args : Array Value} {below : List Frame} {meth : Method} {c : Code} {D : va_G} {cy : ClassId × ClassId} {ad : Nat → Nat} {A : Nat → Prop} {res : (Int × mm)}
theorem CJ5_due_19 (X : zX p s m args meth c cX5_due RX5 wsX5_due 5 D cy ad (some .int) A) (N : Nat) : ∀ (x1 : Int) (x2 : Int) (y0 : Int) (μ : mm), J5_due_19 N x1 x2 y0 μ = some res → ∀ (H : Heap) (locs : List Loc) (ls : Array Slot), zW D cy ad A s.heap μ H locs → lv_has ls 5 [(0, .ref (ad 0)), (1, .int (iO x1)), (2, .int (iO x2))] → W p l e (rmD 2) s m args below meth c H locs 0 0 (MQ below (zQi D cy ad A res.1 res.2) args s 0 0 A) (F0 m 19 ls [.int (iO y0)]) := by
  intro x1 x2 y0 μ h H locs ls hW hl
  rw [J5_due_19] at h
  refine z_istore_n (pc := 19) (i := 3) X.1 [(3, .int (iO y0)), (0, .ref (ad 0)), (1, .int (iO x1)), (2, .int (iO x2))] hl rfl rfl (by decide) rfl dX5_due_19 (fun ls hl => ?_)
  refine z_iload_n (pc := 20) X.1 hl 0 rfl rfl dX5_due_20 ?_
  obtain ⟨g3, h⟩ := z_guard h
  refine z_if_eq (pc := 21) (tgt := 30) X.1 dX5_due_21 (by decide) g3 h (fun c9 h => ?_) (fun c9 h => ?_)
  · refine z_aload_n (pc := 30) X.1 hl 1 rfl rfl dX5_due_30 ?_
    refine z_get1 (pc := 31) X.1 hW rfl iX5_due_1 0 (by decide) rfl (by decide +kernel) dX5_due_31 ?_
    refine z_iload_n (pc := 34) X.1 hl 2 rfl rfl dX5_due_34 ?_
    refine z_iconst (pc := 35) X.1 dX5_due_35 ?_
    refine z_callSI (pc := 36) (n := 2) (As := [.int (iO x1), .int (iO 3)]) (rest := [.ref (ad 1)]) X hW hl (C5_of l N x1 3 μ) gX5_due_X5_of rfl (by decide +kernel) rfl (by decide) rfl (Nat.le_of_ble_eq_true rfl) dX5_due_36 (fun H locs hW => ?_)
    obtain ⟨g4, h⟩ := z_guard h
    refine z_iald (pc := 39) X.1 hW rfl ⟨g4.1, g4.2⟩ dX5_due_39 ?_
    obtain ⟨w5, ew5, h⟩ := z_bnd h
    refine z_istore (pc := 40) (i := 4) X.1 [(4, .int (iO w5)), (3, .int (iO y0)), (0, .ref (ad 0)), (1, .int (iO x1)), (2, .int (iO x2))] hl ew5 (by decide) rfl dX5_due_40 (fun ls hl => ?_)
    refine z_aload_n (pc := 42) X.1 hl 2 rfl rfl dX5_due_42 ?_
    refine z_get1 (pc := 43) X.1 hW rfl iX5_due_1 0 (by decide) rfl (by decide +kernel) dX5_due_43 ?_
    refine z_iload_n (pc := 46) X.1 hl 3 rfl rfl dX5_due_46 ?_
    refine z_iconst (pc := 47) X.1 dX5_due_47 ?_
    refine z_callSI (pc := 48) (n := 2) (As := [.int (iO x1), .int (iO 3)]) (rest := [.ref (ad 1)]) X hW hl (C5_of l N x1 3 μ) gX5_due_X5_of rfl (by decide +kernel) rfl (by decide) rfl (Nat.le_of_ble_eq_true rfl) dX5_due_48 (fun H locs hW => ?_)
    refine z_iload_n (pc := 51) X.1 hl 4 rfl rfl dX5_due_51 ?_
    obtain ⟨g6, h⟩ := z_guard h
    obtain ⟨μ7, eμ7, h⟩ := z_bnd h
    refine z_iast (pc := 52) X.1 hW rfl ⟨g6.1, g6.2⟩ dX5_due_52 (fun H locs hW => ?_)
    replace hW : zW D cy ad A s.heap μ7 H locs := by rw [eμ7]; exact hW
    refine z_iload (pc := 53) X.1 hl 0 rfl dX5_due_53 ?_
    exact z_iret (pc := 55) X hW (z_p1 h) (z_p2 h) dX5_due_55
  · refine z_aload_n (pc := 24) X.1 hl 1 rfl rfl dX5_due_24 ?_
    refine z_iload_n (pc := 25) X.1 hl 0 rfl rfl dX5_due_25 ?_
    obtain ⟨q8, eq8, h⟩ := z_bind h
    refine z_callV1I (pc := 26) (n := 1) (As := [.int (iO y0)]) (rest := []) X hW hl rfl (C5_no l N y0 μ eq8) gX5_due_X5_no rfl (by decide +kernel) rfl (by decide) rfl (Nat.le_of_ble_eq_true rfl) dX5_due_26 (fun H locs hW => ?_)
    exact z_iret (pc := 29) X hW (z_p1 h) (z_p2 h) dX5_due_29
end
theorem C5_due (l : Launch) {D : va_G} {cy : ClassId × ClassId} {ad : Nat → Nat} (N : Nat) (a0 : Int) (a1 : Int) (μ : mm) {res : (Int × mm)} (h : M5_due N a0 a1 μ = some res) : zI l yX5_due wsX5_due 2 D cy ad [.ref (ad 0), .int (iO a0), .int (iO a1)] μ res.1 res.2 := by
  refine zI.of RX5 rfl (by decide) rfl (Nat.le_of_ble_eq_true rfl) ?_
  intro p e s m args below meth c A X hW ls hl
  have hl : lv_has ls 5 [(0, .ref (ad 0)), (1, .int (iO a0)), (2, .int (iO a1))] := hl
  unfold M5_due at h
  refine z_aload_n (pc := 0) X.1 hl 0 rfl rfl dX5_due_0 ?_
  refine z_iload_n (pc := 1) X.1 hl 1 rfl rfl dX5_due_1 ?_
  obtain ⟨q1, eq1, h⟩ := z_bind h
  refine z_callV1I (pc := 2) (n := 1) (As := [.int (iO a0)]) (rest := []) X hW hl rfl (C5_isOne l N a0 μ eq1) gX5_due_X5_isOne rfl (by decide +kernel) rfl (by decide) rfl (Nat.le_of_ble_eq_true rfl) dX5_due_2 (fun H locs hW => ?_)
  obtain ⟨g2, h⟩ := z_guard h
  refine z_if_eq (pc := 5) (tgt := 18) X.1 dX5_due_5 (by decide) g2 h (fun c11 h => ?_) (fun c11 h => ?_)
  · refine z_iconst (pc := 18) X.1 dX5_due_18 ?_
    exact CJ5_due_19 X N a0 a1 (-1) μ h _ _ ls hW (lv_sub hl [0, 1, 2] rfl)
  · refine z_iload_n (pc := 8) X.1 hl 2 rfl rfl dX5_due_8 ?_
    refine z_iconst (pc := 9) X.1 dX5_due_9 ?_
    refine z_bipush (pc := 10) X.1 dX5_due_10 (by decide) ?_
    obtain ⟨q10, eq10, h⟩ := z_bind h
    refine z_callSI (pc := 12) (n := 3) (As := [.int (iO a1), .int (iO 0), .int (iO 60)]) (rest := []) X hW hl (C5_wrongBy l N a1 0 60 μ eq10) gX5_due_X5_wrongBy rfl (by decide +kernel) rfl (by decide) rfl (Nat.le_of_ble_eq_true rfl) dX5_due_12 (fun H locs hW => ?_)
    refine z_goto (pc := 15) (tgt := 19) X.1 dX5_due_15 (by decide) ?_
    exact CJ5_due_19 X N a0 a1 q10 μ h _ _ ls hW (lv_sub hl [0, 1, 2] rfl)
-- X5_fills
theorem iX5_fills_1 : ∀ w ∈ wsX50, w ∈ wsX5_fills := by decide +kernel
section
variable {p : Program} {l : Launch} {e : Env} {s : State} {m : MethodId} {args : Array Value} {below : List Frame} {meth : Method} {c : Code} {D : va_G} {cy : ClassId × ClassId} {ad : Nat → Nat} {A : Nat → Prop} {res : (Int × mm)}
theorem CJ5_fills_29 (X : zX p s m args meth c cX5_fills RX5 wsX5_fills 3 D cy ad (some .int) A) (N : Nat) : ∀ (x1 : Int) (x2 : Int) (μ : mm), J5_fills_29 N x1 x2 μ = some res → ∀ (H : Heap) (locs : List Loc) (ls : Array Slot), zW D cy ad A s.heap μ H locs → lv_has ls 3 [(0, .ref (ad 0)), (1, .int (iO x1)), (2, .int (iO x2))] → W p l e (rmD 1) s m args below meth c H locs 0 0 (MQ below (zQi D cy ad A res.1 res.2) args s 0 0 A) (F0 m 29 ls []) := by
  intro x1 x2 μ h H locs ls hW hl
  rw [J5_fills_29] at h
  refine z_iload_n (pc := 29) X.1 hl 2 rfl rfl dX5_fills_29 ?_
  obtain ⟨g3, h⟩ := z_guard h
  refine z_if_eq (pc := 30) (tgt := 39) X.1 dX5_fills_30 (by decide) g3 h (fun c6 h => ?_) (fun c6 h => ?_)
  · refine z_aload_n (pc := 39) X.1 hl 0 rfl rfl dX5_fills_39 ?_
    refine z_get1 (pc := 40) X.1 hW rfl iX5_fills_1 0 (by decide) rfl (by decide +kernel) dX5_fills_40 ?_
    refine z_iconst (pc := 43) X.1 dX5_fills_43 ?_
    refine z_dup2 (pc := 44) X.1 dX5_fills_44 rfl rfl ?_
    refine z_iald (pc := 45) X.1 hW rfl ⟨(by decide), (by decide)⟩ dX5_fills_45 ?_
    refine z_iload_n (pc := 46) X.1 hl 1 rfl rfl dX5_fills_46 ?_
    refine z_iadd (pc := 47) X.1 dX5_fills_47 ?_
    obtain ⟨μ4, eμ4, h⟩ := z_bnd h
    refine z_iast (pc := 48) X.1 hW rfl ⟨(by decide), (by decide)⟩ dX5_fills_48 (fun H locs hW => ?_)
    replace hW : zW D cy ad A s.heap μ4 H locs := by rw [eμ4]; exact hW
    refine z_aload_n (pc := 49) X.1 hl 0 rfl rfl dX5_fills_49 ?_
    refine z_get1 (pc := 50) X.1 hW rfl iX5_fills_1 0 (by decide) rfl (by decide +kernel) dX5_fills_50 ?_
    refine z_iconst (pc := 53) X.1 dX5_fills_53 ?_
    refine z_iald (pc := 54) X.1 hW rfl ⟨(by decide), (by decide)⟩ dX5_fills_54 ?_
    exact z_iret (pc := 55) X hW (z_p1 h) (z_p2 h) dX5_fills_55
  · refine z_aload_n (pc := 33) X.1 hl 0 rfl rfl dX5_fills_33 ?_
    refine z_iload_n (pc := 34) X.1 hl 2 rfl rfl dX5_fills_34 ?_
    obtain ⟨q5, eq5, h⟩ := z_bind h
    refine z_callV1I (pc := 35) (n := 1) (As := [.int (iO x2)]) (rest := []) X hW hl rfl (C5_no l N x2 μ eq5) gX5_fills_X5_no rfl (by decide +kernel) rfl (by decide) rfl (Nat.le_of_ble_eq_true rfl) dX5_fills_35 (fun H locs hW => ?_)
    exact z_iret (pc := 38) X hW (z_p1 h) (z_p2 h) dX5_fills_38
end
theorem C5_fills (l : Launch) {D : va_G} {cy : ClassId × ClassId} {ad : Nat → Nat} (N : Nat) (a0 : Int) (μ : mm) {res : (Int × mm)} (h : M5_fills N a0 μ = some res) : zI l yX5_fills wsX5_fills 1 D cy ad [.ref (ad 0), .int (iO a0)] μ res.1 res.2 := by
  refine zI.of RX5 rfl (by decide) rfl (Nat.le_of_ble_eq_true rfl) ?_
  intro p e s m args below meth c A X hW ls hl
  have hl : lv_has ls 3 [(0, .ref (ad 0)), (1, .int (iO a0))] := hl
  unfold M5_fills at h
  refine z_iload_n (pc := 0) X.1 hl 1 rfl rfl dX5_fills_0 ?_
  refine z_iconst (pc := 1) X.1 dX5_fills_1 ?_
  refine z_bipush (pc := 2) X.1 dX5_fills_2 (by decide) ?_
  obtain ⟨q1, eq1, h⟩ := z_bind h
  refine z_callSI (pc := 4) (n := 3) (As := [.int (iO a0), .int (iO 0), .int (iO 99)]) (rest := []) X hW hl (C5_wrongBy l N a0 0 99 μ eq1) gX5_fills_X5_wrongBy rfl (by decide +kernel) rfl (by decide) rfl (Nat.le_of_ble_eq_true rfl) dX5_fills_4 (fun H locs hW => ?_)
  refine z_istore_n (pc := 7) (i := 2) X.1 [(2, .int (iO q1)), (0, .ref (ad 0)), (1, .int (iO a0))] hl rfl rfl (by decide) rfl dX5_fills_7 (fun ls hl => ?_)
  refine z_iload_n (pc := 8) X.1 hl 0 rfl rfl dX5_fills_8 ?_
  obtain ⟨g2, h⟩ := z_guard h
  refine z_if_ne (pc := 9) (tgt := 29) X.1 dX5_fills_9 (by decide) g2 h (fun c9 h => ?_) (fun c9 h => ?_)
  · exact CJ5_fills_29 X N a0 q1 μ h _ _ ls hW (lv_sub hl [1, 2, 0] rfl)
  · refine z_aload_n (pc := 12) X.1 hl 1 rfl rfl dX5_fills_12 ?_
    refine z_get1 (pc := 13) X.1 hW rfl iX5_fills_1 0 (by decide) rfl (by decide +kernel) dX5_fills_13 ?_
    refine z_iconst (pc := 16) X.1 dX5_fills_16 ?_
    refine z_iald (pc := 17) X.1 hW rfl ⟨(by decide), (by decide)⟩ dX5_fills_17 ?_
    refine z_iload_n (pc := 18) X.1 hl 2 rfl rfl dX5_fills_18 ?_
    refine z_iadd (pc := 19) X.1 dX5_fills_19 ?_
    refine z_sipush (pc := 20) X.1 dX5_fills_20 (by decide) ?_
    obtain ⟨g7, h⟩ := z_guard h
    refine z_icmp_le (pc := 23) (tgt := 29) X.1 dX5_fills_23 (by decide) ⟨g7, (by decide)⟩ h (fun c8 h => ?_) (fun c8 h => ?_)
    · exact CJ5_fills_29 X N a0 q1 μ h _ _ ls hW (lv_sub hl [1, 2, 0] rfl)
    · refine z_bipush (pc := 26) X.1 dX5_fills_26 (by decide) ?_
      refine z_istore_n (pc := 28) (i := 2) X.1 [(2, .int (iO (-6))), (0, .ref (ad 0)), (1, .int (iO a0))] hl rfl rfl (by decide) rfl dX5_fills_28 (fun ls hl => ?_)
      exact CJ5_fills_29 X N a0 (-6) μ h _ _ ls hW (lv_sub hl [1, 2, 0] rfl)
-- X5_turn
theorem iX5_turn_1 : ∀ w ∈ wsX50, w ∈ wsX5_turn := by decide +kernel
section
variable {p : Program} {l : Launch} {e : Env} {s : State} {m : MethodId} {args : Array Value} {below : List Frame} {meth : Method} {c : Code} {D : va_G} {cy : ClassId × ClassId} {ad : Nat → Nat} {A : Nat → Prop} {res : (Int × mm)}
theorem CJ5_turn_33 (X : zX p s m args meth c cX5_turn RX5 wsX5_turn 6 D cy ad (some .int) A) (N : Nat) : ∀ (x1 : Int) (x2 : Int) (x3 : Int) (y0 : Int) (μ : mm), J5_turn_33 N x1 x2 x3 y0 μ = some res → ∀ (H : Heap) (locs : List Loc) (ls : Array Slot), zW D cy ad A s.heap μ H locs → lv_has ls 6 [(0, .ref (ad 0)), (1, .int (iO x1)), (2, .int (iO x2)), (3, .int (iO x3))] → W p l e (rmD 2) s m args below meth c H locs 0 0 (MQ below (zQi D cy ad A res.1 res.2) args s 0 0 A) (F0 m 33 ls [.int (iO y0)]) := by
  intro x1 x2 x3 y0 μ h H locs ls hW hl
  rw [J5_turn_33] at h
  refine z_istore (pc := 33) (i := 4) X.1 [(4, .int (iO y0)), (0, .ref (ad 0)), (1, .int (iO x1)), (2, .int (iO x2)), (3, .int (iO x3))] hl rfl (by decide) rfl dX5_turn_33 (fun ls hl => ?_)
  refine z_iload (pc := 35) X.1 hl 0 rfl dX5_turn_35 ?_
  obtain ⟨g6, h⟩ := z_guard h
  refine z_if_eq (pc := 37) (tgt := 47) X.1 dX5_turn_37 (by decide) g6 h (fun c15 h => ?_) (fun c15 h => ?_)
  · refine z_bipush (pc := 47) X.1 dX5_turn_47 (by decide) ?_
    refine z_aload_n (pc := 49) X.1 hl 1 rfl rfl dX5_turn_49 ?_
    refine z_get1 (pc := 50) X.1 hW rfl iX5_turn_1 0 (by decide) rfl (by decide +kernel) dX5_turn_50 ?_
    refine z_iload_n (pc := 53) X.1 hl 2 rfl rfl dX5_turn_53 ?_
    refine z_iconst (pc := 54) X.1 dX5_turn_54 ?_
    refine z_callSI (pc := 55) (n := 2) (As := [.int (iO x1), .int (iO 0)]) (rest := [.ref (ad 1), .int (iO 10)]) X hW hl (C5_of l N x1 0 μ) gX5_turn_X5_of rfl (by decide +kernel) rfl (by decide) rfl (Nat.le_of_ble_eq_true rfl) dX5_turn_55 (fun H locs hW => ?_)
    obtain ⟨g7, h⟩ := z_guard h
    refine z_iald (pc := 58) X.1 hW rfl ⟨g7.1, g7.2⟩ dX5_turn_58 ?_
    refine z_imul (pc := 59) X.1 dX5_turn_59 ?_
    refine z_aload_n (pc := 60) X.1 hl 1 rfl rfl dX5_turn_60 ?_
    refine z_get1 (pc := 61) X.1 hW rfl iX5_turn_1 0 (by decide) rfl (by decide +kernel) dX5_turn_61 ?_
    refine z_iload_n (pc := 64) X.1 hl 2 rfl rfl dX5_turn_64 ?_
    refine z_iconst (pc := 65) X.1 dX5_turn_65 ?_
    refine z_callSI (pc := 66) (n := 2) (As := [.int (iO x1), .int (iO 1)]) (rest := [.ref (ad 1), .int (iO (10 * (μ 1 (((4 + (6 * x1)) + 0)).toNat)))]) X hW hl (C5_of l N x1 1 μ) gX5_turn_X5_of rfl (by decide +kernel) rfl (by decide) rfl (Nat.le_of_ble_eq_true rfl) dX5_turn_66 (fun H locs hW => ?_)
    obtain ⟨g8, h⟩ := z_guard h
    refine z_iald (pc := 69) X.1 hW rfl ⟨g8.1, g8.2⟩ dX5_turn_69 ?_
    refine z_iadd (pc := 70) X.1 dX5_turn_70 ?_
    obtain ⟨w9, ew9, h⟩ := z_bnd h
    refine z_istore (pc := 71) (i := 5) X.1 [(5, .int (iO w9)), (4, .int (iO y0)), (0, .ref (ad 0)), (1, .int (iO x1)), (2, .int (iO x2)), (3, .int (iO x3))] hl ew9 (by decide) rfl dX5_turn_71 (fun ls hl => ?_)
    refine z_aload_n (pc := 73) X.1 hl 2 rfl rfl dX5_turn_73 ?_
    refine z_get1 (pc := 74) X.1 hW rfl iX5_turn_1 0 (by decide) rfl (by decide +kernel) dX5_turn_74 ?_
    refine z_iload_n (pc := 77) X.1 hl 3 rfl rfl dX5_turn_77 ?_
    refine z_iconst (pc := 78) X.1 dX5_turn_78 ?_
    refine z_callSI (pc := 79) (n := 2) (As := [.int (iO x1), .int (iO 0)]) (rest := [.ref (ad 1)]) X hW hl (C5_of l N x1 0 μ) gX5_turn_X5_of rfl (by decide +kernel) rfl (by decide) rfl (Nat.le_of_ble_eq_true rfl) dX5_turn_79 (fun H locs hW => ?_)
    refine z_iload_n (pc := 82) X.1 hl 4 rfl rfl dX5_turn_82 ?_
    obtain ⟨g10, h⟩ := z_guard h
    obtain ⟨μ11, eμ11, h⟩ := z_bnd h
    refine z_iast (pc := 83) X.1 hW rfl ⟨g10.1, g10.2⟩ dX5_turn_83 (fun H locs hW => ?_)
    replace hW : zW D cy ad A s.heap μ11 H locs := by rw [eμ11]; exact hW
    refine z_aload_n (pc := 84) X.1 hl 2 rfl rfl dX5_turn_84 ?_
    refine z_get1 (pc := 85) X.1 hW rfl iX5_turn_1 0 (by decide) rfl (by decide +kernel) dX5_turn_85 ?_
    refine z_iload_n (pc := 88) X.1 hl 3 rfl rfl dX5_turn_88 ?_
    refine z_iconst (pc := 89) X.1 dX5_turn_89 ?_
    refine z_callSI (pc := 90) (n := 2) (As := [.int (iO x1), .int (iO 1)]) (rest := [.ref (ad 1)]) X hW hl (C5_of l N x1 1 μ11) gX5_turn_X5_of rfl (by decide +kernel) rfl (by decide) rfl (Nat.le_of_ble_eq_true rfl) dX5_turn_90 (fun H locs hW => ?_)
    refine z_iload_n (pc := 93) X.1 hl 5 rfl rfl dX5_turn_93 ?_
    obtain ⟨g12, h⟩ := z_guard h
    obtain ⟨μ13, eμ13, h⟩ := z_bnd h
    refine z_iast (pc := 94) X.1 hW rfl ⟨g12.1, g12.2⟩ dX5_turn_94 (fun H locs hW => ?_)
    replace hW : zW D cy ad A s.heap μ13 H locs := by rw [eμ13]; exact hW
    refine z_iload (pc := 95) X.1 hl 0 rfl dX5_turn_95 ?_
    exact z_iret (pc := 97) X hW (z_p1 h) (z_p2 h) dX5_turn_97
  · refine z_aload_n (pc := 40) X.1 hl 1 rfl rfl dX5_turn_40 ?_
    refine z_iload (pc := 41) X.1 hl 0 rfl dX5_turn_41 ?_
    obtain ⟨q14, eq14, h⟩ := z_bind h
    refine z_callV1I (pc := 43) (n := 1) (As := [.int (iO y0)]) (rest := []) X hW hl rfl (C5_no l N y0 μ eq14) gX5_turn_X5_no rfl (by decide +kernel) rfl (by decide) rfl (Nat.le_of_ble_eq_true rfl) dX5_turn_43 (fun H locs hW => ?_)
    exact z_iret (pc := 46) X hW (z_p1 h) (z_p2 h) dX5_turn_46
end
theorem C5_turn (l : Launch) {D : va_G} {cy : ClassId × ClassId} {ad : Nat → Nat} (N : Nat) (a0 : Int) (a1 : Int) (a2 : Int) (μ : mm) {res : (Int × mm)} (h : M5_turn N a0 a1 a2 μ = some res) : zI l yX5_turn wsX5_turn 2 D cy ad [.ref (ad 0), .int (iO a0), .int (iO a1), .int (iO a2)] μ res.1 res.2 := by
  refine zI.of RX5 rfl (by decide) rfl (Nat.le_of_ble_eq_true rfl) ?_
  intro p e s m args below meth c A X hW ls hl
  have hl : lv_has ls 6 [(0, .ref (ad 0)), (1, .int (iO a0)), (2, .int (iO a1)), (3, .int (iO a2))] := hl
  unfold M5_turn at h
  refine z_aload_n (pc := 0) X.1 hl 0 rfl rfl dX5_turn_0 ?_
  refine z_iload_n (pc := 1) X.1 hl 1 rfl rfl dX5_turn_1 ?_
  obtain ⟨q1, eq1, h⟩ := z_bind h
  refine z_callV1I (pc := 2) (n := 1) (As := [.int (iO a0)]) (rest := []) X hW hl rfl (C5_isOne l N a0 μ eq1) gX5_turn_X5_isOne rfl (by decide +kernel) rfl (by decide) rfl (Nat.le_of_ble_eq_true rfl) dX5_turn_2 (fun H locs hW => ?_)
  obtain ⟨g2, h⟩ := z_guard h
  refine z_if_ne (pc := 5) (tgt := 12) X.1 dX5_turn_5 (by decide) g2 h (fun c17 h => ?_) (fun c17 h => ?_)
  · refine z_iload_n (pc := 12) X.1 hl 2 rfl rfl dX5_turn_12 ?_
    refine z_iconst (pc := 13) X.1 dX5_turn_13 ?_
    refine z_iconst (pc := 14) X.1 dX5_turn_14 ?_
    obtain ⟨q3, eq3, h⟩ := z_bind h
    refine z_callSI (pc := 15) (n := 3) (As := [.int (iO a1), .int (iO 0), .int (iO 5)]) (rest := []) X hW hl (C5_isIn l N a1 0 5 μ eq3) gX5_turn_X5_isIn rfl (by decide +kernel) rfl (by decide) rfl (Nat.le_of_ble_eq_true rfl) dX5_turn_15 (fun H locs hW => ?_)
    obtain ⟨g4, h⟩ := z_guard h
    refine z_if_ne (pc := 18) (tgt := 26) X.1 dX5_turn_18 (by decide) g4 h (fun c16 h => ?_) (fun c16 h => ?_)
    · refine z_iload_n (pc := 26) X.1 hl 3 rfl rfl dX5_turn_26 ?_
      refine z_iconst (pc := 27) X.1 dX5_turn_27 ?_
      refine z_bipush (pc := 28) X.1 dX5_turn_28 (by decide) ?_
      obtain ⟨q5, eq5, h⟩ := z_bind h
      refine z_callSI (pc := 30) (n := 3) (As := [.int (iO a2), .int (iO 0), .int (iO 9)]) (rest := []) X hW hl (C5_wrongBy l N a2 0 9 μ eq5) gX5_turn_X5_wrongBy rfl (by decide +kernel) rfl (by decide) rfl (Nat.le_of_ble_eq_true rfl) dX5_turn_30 (fun H locs hW => ?_)
      exact CJ5_turn_33 X N a0 a1 a2 q5 μ h _ _ ls hW (lv_sub hl [0, 1, 2, 3] rfl)
    · refine z_bipush (pc := 21) X.1 dX5_turn_21 (by decide) ?_
      refine z_goto (pc := 23) (tgt := 33) X.1 dX5_turn_23 (by decide) ?_
      exact CJ5_turn_33 X N a0 a1 a2 (-2) μ h _ _ ls hW (lv_sub hl [0, 1, 2, 3] rfl)
  · refine z_iconst (pc := 8) X.1 dX5_turn_8 ?_
    refine z_goto (pc := 9) (tgt := 33) X.1 dX5_turn_9 (by decide) ?_
    exact CJ5_turn_33 X N a0 a1 a2 (-1) μ h _ _ ls hW (lv_sub hl [0, 1, 2, 3] rfl)
-- X5_days
theorem iX5_days_1 : ∀ w ∈ wsX50, w ∈ wsX5_days := by decide +kernel
section
variable {p : Program} {l : Launch} {e : Env} {s : State} {m : MethodId} {args : Array Value} {below : List Frame} {meth : Method} {c : Code} {D : va_G} {cy : ClassId × ClassId} {ad : Nat → Nat} {A : Nat → Prop} {res : (Int × mm)}
theorem CJ5_days_32 (X : zX p s m args meth c cX5_days RX5 wsX5_days 3 D cy ad (some .int) A) (N : Nat) : ∀ (μ : mm), J5_days_32 N μ = some res → ∀ (H : Heap) (locs : List Loc) (ls : Array Slot), zW D cy ad A s.heap μ H locs → lv_has ls 3 [(0, .ref (ad 0))] → W p l e (rmD 6) s m args below meth c H locs 0 0 (MQ below (zQi D cy ad A res.1 res.2) args s 0 0 A) (F0 m 32 ls []) := by
  intro μ h H locs ls hW hl
  rw [J5_days_32] at h
  refine z_aload_n (pc := 32) X.1 hl 0 rfl rfl dX5_days_32 ?_
  refine z_bipush (pc := 33) X.1 dX5_days_33 (by decide) ?_
  obtain ⟨q3, eq3, h⟩ := z_bind h
  refine z_callV1I (pc := 35) (n := 1) (As := [.int (iO (-6))]) (rest := []) X hW hl rfl (C5_no l N (-6) μ eq3) gX5_days_X5_no rfl (by decide +kernel) rfl (by decide) rfl (Nat.le_of_ble_eq_true rfl) dX5_days_35 (fun H locs hW => ?_)
  exact z_iret (pc := 38) X hW (z_p1 h) (z_p2 h) dX5_days_38
end
theorem C5_days (l : Launch) {D : va_G} {cy : ClassId × ClassId} {ad : Nat → Nat} (N : Nat) (a0 : Int) (μ : mm) {res : (Int × mm)} (h : M5_days N a0 μ = some res) : zI l yX5_days wsX5_days 6 D cy ad [.ref (ad 0), .int (iO a0)] μ res.1 res.2 := by
  refine zI.of RX5 rfl (by decide) rfl (Nat.le_of_ble_eq_true rfl) ?_
  intro p e s m args below meth c A X hW ls hl
  have hl : lv_has ls 3 [(0, .ref (ad 0)), (1, .int (iO a0))] := hl
  unfold M5_days at h
  refine z_iload_n (pc := 0) X.1 hl 1 rfl rfl dX5_days_0 ?_
  refine z_iconst (pc := 1) X.1 dX5_days_1 ?_
  obtain ⟨g1, h⟩ := z_guard h
  refine z_icmp_ge (pc := 2) (tgt := 12) X.1 dX5_days_2 (by decide) ⟨g1, (by decide)⟩ h (fun c11 h => ?_) (fun c11 h => ?_)
  · refine z_iload_n (pc := 12) X.1 hl 1 rfl rfl dX5_days_12 ?_
    refine z_bipush (pc := 13) X.1 dX5_days_13 (by decide) ?_
    obtain ⟨g2, h⟩ := z_guard h
    refine z_icmp_gt (pc := 15) (tgt := 32) X.1 dX5_days_15 (by decide) ⟨g2, (by decide)⟩ h (fun c9 h => ?_) (fun c9 h => ?_)
    · exact CJ5_days_32 X N  μ h _ _ ls hW (lv_sub hl [0] rfl)
    · refine z_aload_n (pc := 18) X.1 hl 0 rfl rfl dX5_days_18 ?_
      refine z_get1 (pc := 19) X.1 hW rfl iX5_days_1 0 (by decide) rfl (by decide +kernel) dX5_days_19 ?_
      refine z_iconst (pc := 22) X.1 dX5_days_22 ?_
      refine z_iald (pc := 23) X.1 hW rfl ⟨(by decide), (by decide)⟩ dX5_days_23 ?_
      refine z_iload_n (pc := 24) X.1 hl 1 rfl rfl dX5_days_24 ?_
      refine z_iadd (pc := 25) X.1 dX5_days_25 ?_
      refine z_sipush (pc := 26) X.1 dX5_days_26 (by decide) ?_
      obtain ⟨g4, h⟩ := z_guard h
      refine z_icmp_le (pc := 29) (tgt := 39) X.1 dX5_days_29 (by decide) ⟨g4, (by decide)⟩ h (fun c8 h => ?_) (fun c8 h => ?_)
      · refine z_aload_n (pc := 39) X.1 hl 0 rfl rfl dX5_days_39 ?_
        refine z_get1 (pc := 40) X.1 hW rfl iX5_days_1 0 (by decide) rfl (by decide +kernel) dX5_days_40 ?_
        refine z_iconst (pc := 43) X.1 dX5_days_43 ?_
        obtain ⟨q5, eq5, h⟩ := z_bind h
        refine z_callSI (pc := 44) (n := 2) (As := [.ref (ad 1), .int (iO 4)]) (rest := []) X hW hl (C5_allOf l N 1 4 (by decide) μ eq5) gX5_days_X5_allOf rfl (by decide +kernel) rfl (by decide) rfl (Nat.le_of_ble_eq_true rfl) dX5_days_44 (fun H locs hW => ?_)
        refine z_istore_n (pc := 47) (i := 2) X.1 [(2, .int (iO q5)), (0, .ref (ad 0)), (1, .int (iO a0))] hl rfl rfl (by decide) rfl dX5_days_47 (fun ls hl => ?_)
        refine z_aload_n (pc := 48) X.1 hl 1 rfl rfl dX5_days_48 ?_
        refine z_get1 (pc := 49) X.1 hW rfl iX5_days_1 0 (by decide) rfl (by decide +kernel) dX5_days_49 ?_
        refine z_iload_n (pc := 52) X.1 hl 2 rfl rfl dX5_days_52 ?_
        obtain ⟨q6, eq6, h⟩ := z_bind h
        refine z_callSV (pc := 53) (n := 2) (As := [.ref (ad 1), .int (iO a0)]) (rest := []) X hW hl (C5_daysOn l N 1 a0 (by decide) μ eq6) gX5_days_X5_daysOn rfl (by decide +kernel) rfl (by decide) rfl (Nat.le_of_ble_eq_true rfl) dX5_days_53 (fun H locs hW => ?_)
        refine z_aload_n (pc := 56) X.1 hl 1 rfl rfl dX5_days_56 ?_
        refine z_get1 (pc := 57) X.1 hW rfl iX5_days_1 0 (by decide) rfl (by decide +kernel) dX5_days_57 ?_
        refine z_iconst (pc := 60) X.1 dX5_days_60 ?_
        obtain ⟨q7, eq7, h⟩ := z_bind h
        refine z_callSI (pc := 61) (n := 2) (As := [.ref (ad 1), .int (iO 4)]) (rest := []) X hW hl (C5_allOf l N 1 4 (by decide) q6 eq7) gX5_days_X5_allOf rfl (by decide +kernel) rfl (by decide) rfl (Nat.le_of_ble_eq_true rfl) dX5_days_61 (fun H locs hW => ?_)
        refine z_iload_n (pc := 64) X.1 hl 0 rfl rfl dX5_days_64 ?_
        refine z_isub (pc := 65) X.1 dX5_days_65 ?_
        exact z_iret (pc := 66) X hW (z_p1 h) (z_p2 h) dX5_days_66
      · exact CJ5_days_32 X N  μ h _ _ ls hW (lv_sub hl [0] rfl)
  · refine z_aload_n (pc := 5) X.1 hl 0 rfl rfl dX5_days_5 ?_
    refine z_bipush (pc := 6) X.1 dX5_days_6 (by decide) ?_
    obtain ⟨q10, eq10, h⟩ := z_bind h
    refine z_callV1I (pc := 8) (n := 1) (As := [.int (iO (-4))]) (rest := []) X hW hl rfl (C5_no l N (-4) μ eq10) gX5_days_X5_no rfl (by decide +kernel) rfl (by decide) rfl (Nat.le_of_ble_eq_true rfl) dX5_days_8 (fun H locs hW => ?_)
    exact z_iret (pc := 11) X hW (z_p1 h) (z_p2 h) dX5_days_11
-- X5_takes
theorem iX5_takes_1 : ∀ w ∈ wsX50, w ∈ wsX5_takes := by decide +kernel
theorem C5_takes (l : Launch) {D : va_G} {cy : ClassId × ClassId} {ad : Nat → Nat} (N : Nat) (a0 : Int) (μ : mm) {res : mm} (h : M5_takes N a0 μ = some res) : zV l yX5_takes wsX5_takes 6 D cy ad [.ref (ad 0), .int (iO a0)] μ res := by
  refine zV.of RX5 rfl (by decide) rfl (Nat.le_of_ble_eq_true rfl) ?_
  intro p e s m args below meth c A X hW ls hl
  have hl : lv_has ls 2 [(0, .ref (ad 0)), (1, .int (iO a0))] := hl
  unfold M5_takes at h
  refine z_aload_n (pc := 0) X.1 hl 0 rfl rfl dX5_takes_0 ?_
  refine z_get1 (pc := 1) X.1 hW rfl iX5_takes_1 0 (by decide) rfl (by decide +kernel) dX5_takes_1 ?_
  refine z_aload_n (pc := 4) X.1 hl 0 rfl rfl dX5_takes_4 ?_
  refine z_get1 (pc := 5) X.1 hW rfl iX5_takes_1 1 (by decide) rfl (by decide +kernel) dX5_takes_5 ?_
  obtain ⟨q1, eq1, h⟩ := z_bind h
  refine z_callSV (pc := 8) (n := 2) (As := [.ref (ad 1), .ref (ad 2)]) (rest := []) X hW hl (C5_copies l N 1 2 (by decide) (by decide) μ eq1) gX5_takes_X5_copies rfl (by decide +kernel) rfl (by decide) rfl (Nat.le_of_ble_eq_true rfl) dX5_takes_8 (fun H locs hW => ?_)
  refine z_aload_n (pc := 11) X.1 hl 0 rfl rfl dX5_takes_11 ?_
  refine z_get1 (pc := 12) X.1 hW rfl iX5_takes_1 1 (by decide) rfl (by decide +kernel) dX5_takes_12 ?_
  refine z_iload_n (pc := 15) X.1 hl 1 rfl rfl dX5_takes_15 ?_
  obtain ⟨q2, eq2, h⟩ := z_bind h
  refine z_callSV (pc := 16) (n := 2) (As := [.ref (ad 2), .int (iO a0)]) (rest := []) X hW hl (C5_daysOn l N 2 a0 (by decide) q1 eq2) gX5_takes_X5_daysOn rfl (by decide +kernel) rfl (by decide) rfl (Nat.le_of_ble_eq_true rfl) dX5_takes_16 (fun H locs hW => ?_)
  exact z_vret (pc := 19) X hW (Option.some.inj h) dX5_takes_19
