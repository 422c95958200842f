-- X5_judge
theorem iX5_judge_1 : ∀ w ∈ wsX50, w ∈ wsX5_judge := by decide +kernel
section
variable {p : Program} {l : Launch} {e : Env} {s : State} {m : MethodId} {args : Array Value} {below : List Frame} {meth : Method} {c : Code} {D : va_G} {cy : ClassId × ClassId} {ad : Nat → Nat} {A : Nat → Prop} {res : (Int × mm)}
theorem CL5_judge_12 (X : zX p s m args meth c cX5_judge RX5 wsX5_judge 3 D cy ad (some .int) A) (N : Nat) : ∀ (k : Nat) (x1 : Int) (x2 : Int) (μ : mm), L5_judge_12 N k x1 x2 μ = some res → ∀ (H : Heap) (locs : List Loc) (ls : Array Slot), zW D cy ad A s.heap μ H locs → lv_has ls 3 [(0, .ref (ad 0)), (1, .int (iO x1)), (2, .int (iO x2))] → W p l e (rmD 2) s m args below meth c H locs 0 0 (MQ below (zQi D cy ad A res.1 res.2) args s 0 0 A) (F0 m 12 ls []) := by
  intro k
  induction k with
  | zero =>
    intro x1 x2 μ h H locs ls hW hl
    exact absurd h (by rw [L5_judge_12]; exact fun z => by cases z)
  | succ k ih =>
    intro x1 x2 μ h H locs ls hW hl
    rw [L5_judge_12] at h
    refine z_iload_n (pc := 12) X.1 hl 2 rfl rfl dX5_judge_12 ?_
    refine z_iload_n (pc := 13) X.1 hl 1 rfl rfl dX5_judge_13 ?_
    obtain ⟨g3, h⟩ := z_guard h
    refine z_icmp_ge (pc := 14) (tgt := 52) X.1 dX5_judge_14 (by decide) ⟨g3.1, g3.2⟩ h (fun c11 h => ?_) (fun c11 h => ?_)
    · refine z_bipush (pc := 52) X.1 dX5_judge_52 (by decide) ?_
      exact z_iret (pc := 54) X hW (z_p1 h) (z_p2 h) dX5_judge_54
    · refine z_aload_n (pc := 17) X.1 hl 0 rfl rfl dX5_judge_17 ?_
      refine z_iload_n (pc := 18) X.1 hl 2 rfl rfl dX5_judge_18 ?_
      obtain ⟨q4, eq4, h⟩ := z_bind h
      refine z_callV1I (pc := 19) (n := 1) (As := [.int (iO x2)]) (rest := []) X hW hl rfl (C5_isOne l N x2 μ eq4) gX5_judge_X5_isOne rfl (by decide +kernel) rfl (by decide) rfl (Nat.le_of_ble_eq_true rfl) dX5_judge_19 (fun H locs hW => ?_)
      obtain ⟨g5, h⟩ := z_guard h
      refine z_if_eq (pc := 22) (tgt := 44) X.1 dX5_judge_22 (by decide) g5 h (fun c10 h => ?_) (fun c10 h => ?_)
      · refine z_iload_n (pc := 44) X.1 hl 2 rfl rfl dX5_judge_44 ?_
        exact z_iret (pc := 45) X hW (z_p1 h) (z_p2 h) dX5_judge_45
      · refine z_aload_n (pc := 25) X.1 hl 0 rfl rfl dX5_judge_25 ?_
        refine z_get1 (pc := 26) X.1 hW rfl iX5_judge_1 0 (by decide) rfl (by decide +kernel) dX5_judge_26 ?_
        refine z_iload_n (pc := 29) X.1 hl 2 rfl rfl dX5_judge_29 ?_
        refine z_iconst (pc := 30) X.1 dX5_judge_30 ?_
        refine z_callSI (pc := 31) (n := 2) (As := [.int (iO x2), .int (iO 3)]) (rest := [.ref (ad 1)]) X hW hl (C5_of l N x2 3 μ) gX5_judge_X5_of rfl (by decide +kernel) rfl (by decide) rfl (Nat.le_of_ble_eq_true rfl) dX5_judge_31 (fun H locs hW => ?_)
        obtain ⟨g6, h⟩ := z_guard h
        refine z_iald (pc := 34) X.1 hW rfl ⟨g6.1, g6.2⟩ dX5_judge_34 ?_
        refine z_aload_n (pc := 35) X.1 hl 0 rfl rfl dX5_judge_35 ?_
        refine z_get1 (pc := 36) X.1 hW rfl iX5_judge_1 6 (by decide) rfl (by decide +kernel) dX5_judge_36 ?_
        refine z_iload_n (pc := 39) X.1 hl 2 rfl rfl dX5_judge_39 ?_
        obtain ⟨g7, h⟩ := z_guard h
        refine z_iald (pc := 40) X.1 hW rfl ⟨g7.1, g7.2⟩ dX5_judge_40 ?_
        obtain ⟨g8, h⟩ := z_guard h
        refine z_icmp_eq (pc := 41) (tgt := 46) X.1 dX5_judge_41 (by decide) ⟨g8.1, g8.2⟩ h (fun c9 h => ?_) (fun c9 h => ?_)
        · refine z_iinc (pc := 46) (i := 2) X.1 [(2, .int (iO (x2 + 1))), (0, .ref (ad 0)), (1, .int (iO x1))] hl 2 rfl rfl (by decide) rfl dX5_judge_46 (fun ls hl => ?_)
          refine z_goto (pc := 49) (tgt := 12) X.1 dX5_judge_49 (by decide) ?_
          exact ih x1 (x2 + 1) μ h _ _ ls hW (lv_sub hl [1, 2, 0] rfl)
        · refine z_iload_n (pc := 44) X.1 hl 2 rfl rfl dX5_judge_44 ?_
          exact z_iret (pc := 45) X hW (z_p1 h) (z_p2 h) dX5_judge_45
end
theorem C5_judge (l : Launch) {D : va_G} {cy : ClassId × ClassId} {ad : Nat → Nat} (N : Nat)  (μ : mm) {res : (Int × mm)} (h : M5_judge N μ = some res) : zI l yX5_judge wsX5_judge 2 D cy ad [.ref (ad 0)] μ res.1 res.2 := by
  refine zI.of RX5 rfl (by decide) rfl (Nat.le_of_ble_eq_true rfl) ?_
  intro p e s m args below meth c A X hW ls hl
  have hl : lv_has ls 3 [(0, .ref (ad 0))] := hl
  unfold M5_judge at h
  refine z_aload_n (pc := 0) X.1 hl 0 rfl rfl dX5_judge_0 ?_
  refine z_get1 (pc := 1) X.1 hW rfl iX5_judge_1 9 (by decide) rfl (by decide +kernel) dX5_judge_1 ?_
  obtain ⟨w1, ew1, h⟩ := z_bnd h
  refine z_istore_n (pc := 4) (i := 1) X.1 [(1, .int (iO w1)), (0, .ref (ad 0))] hl ew1 rfl (by decide) rfl dX5_judge_4 (fun ls hl => ?_)
  refine z_aload_n (pc := 5) X.1 hl 1 rfl rfl dX5_judge_5 ?_
  refine z_iconst (pc := 6) X.1 dX5_judge_6 ?_
  obtain ⟨μ2, eμ2, h⟩ := z_bnd h
  refine z_put1_9 (pc := 7) X.1 hW rfl iX5_judge_1 (by decide +kernel) dX5_judge_7 (fun H locs hW => ?_)
  rw [← eμ2] at hW
  refine z_iconst (pc := 10) X.1 dX5_judge_10 ?_
  refine z_istore_n (pc := 11) (i := 2) X.1 [(2, .int (iO 0)), (1, .int (iO w1)), (0, .ref (ad 0))] hl rfl rfl (by decide) rfl dX5_judge_11 (fun ls hl => ?_)
  exact CL5_judge_12 X N N w1 0 μ2 h _ _ ls hW (lv_sub hl [2, 1, 0] rfl)
-- X5_clear
theorem iX5_clear_1 : ∀ w ∈ wsX50, w ∈ wsX5_clear := by decide +kernel
theorem C5_clear (l : Launch) {D : va_G} {cy : ClassId × ClassId} {ad : Nat → Nat} (N : Nat)  (μ : mm) {res : (Int × mm)} (h : M5_clear N μ = some res) : zI l yX5_clear wsX5_clear 0 D cy ad [.ref (ad 0)] μ res.1 res.2 := by
  refine zI.of RX5 rfl (by decide) rfl (Nat.le_of_ble_eq_true rfl) ?_
  intro p e s m args below meth c A X hW ls hl
  have hl : lv_has ls 2 [(0, .ref (ad 0))] := hl
  unfold M5_clear at h
  refine z_aload_n (pc := 0) X.1 hl 0 rfl rfl dX5_clear_0 ?_
  refine z_get1 (pc := 1) X.1 hW rfl iX5_clear_1 9 (by decide) rfl (by decide +kernel) dX5_clear_1 ?_
  obtain ⟨w1, ew1, h⟩ := z_bnd h
  refine z_istore_n (pc := 4) (i := 1) X.1 [(1, .int (iO w1)), (0, .ref (ad 0))] hl ew1 rfl (by decide) rfl dX5_clear_4 (fun ls hl => ?_)
  refine z_aload_n (pc := 5) X.1 hl 1 rfl rfl dX5_clear_5 ?_
  refine z_iconst (pc := 6) X.1 dX5_clear_6 ?_
  obtain ⟨μ2, eμ2, h⟩ := z_bnd h
  refine z_put1_9 (pc := 7) X.1 hW rfl iX5_clear_1 (by decide +kernel) dX5_clear_7 (fun H locs hW => ?_)
  rw [← eμ2] at hW
  refine z_iload_n (pc := 10) X.1 hl 0 rfl rfl dX5_clear_10 ?_
  exact z_iret (pc := 11) X hW (z_p1 h) (z_p2 h) dX5_clear_11
-- X5_drawn
theorem iX5_drawn_1 : ∀ w ∈ wsX50, w ∈ wsX5_drawn := by decide +kernel
theorem C5_drawn (l : Launch) {D : va_G} {cy : ClassId × ClassId} {ad : Nat → Nat} (N : Nat) (a0 : Int) (μ : mm) {res : (Int × mm)} (h : M5_drawn N a0 μ = some res) : zI l yX5_drawn wsX5_drawn 0 D cy ad [.ref (ad 0), .int (iO a0)] μ res.1 res.2 := by
  refine zI.of RX5 rfl (by decide) rfl (Nat.le_of_ble_eq_true rfl) ?_
  intro p e s m args below meth c A X hW ls hl
  have hl : lv_has ls 2 [(0, .ref (ad 0)), (1, .int (iO a0))] := hl
  unfold M5_drawn at h
  refine z_aload_n (pc := 0) X.1 hl 0 rfl rfl dX5_drawn_0 ?_
  refine z_aload_n (pc := 1) X.1 hl 0 rfl rfl dX5_drawn_1 ?_
  refine z_get1 (pc := 2) X.1 hW rfl iX5_drawn_1 12 (by decide) rfl (by decide +kernel) dX5_drawn_2 ?_
  refine z_ldc (pc := 5) (n := 1664525) X.1 (by decide +kernel) dX5_drawn_5 ?_
  refine z_imul (pc := 7) X.1 dX5_drawn_7 ?_
  refine z_ldc (pc := 8) (n := 1013904223) X.1 (by decide +kernel) dX5_drawn_8 ?_
  refine z_iadd (pc := 10) X.1 dX5_drawn_10 ?_
  obtain ⟨μ1, eμ1, h⟩ := z_bnd h
  refine z_put1_12 (pc := 11) X.1 hW rfl iX5_drawn_1 (by decide +kernel) dX5_drawn_11 (fun H locs hW => ?_)
  rw [← eμ1] at hW
  refine z_aload_n (pc := 14) X.1 hl 0 rfl rfl dX5_drawn_14 ?_
  refine z_get1 (pc := 15) X.1 hW rfl iX5_drawn_1 12 (by decide) rfl (by decide +kernel) dX5_drawn_15 ?_
  refine z_ldc (pc := 18) (n := 2147483647) X.1 (by decide +kernel) dX5_drawn_18 ?_
  refine z_iand2147483647 (pc := 20) X.1 dX5_drawn_20 ?_
  refine z_sipush (pc := 21) X.1 dX5_drawn_21 (by decide) ?_
  obtain ⟨g2, h⟩ := z_guard h
  refine z_idiv (pc := 24) X.1 dX5_drawn_24 ⟨g2.1, (by decide), g2.2, (by decide)⟩ ?_
  refine z_iload_n (pc := 25) X.1 hl 1 rfl rfl dX5_drawn_25 ?_
  obtain ⟨g3, h⟩ := z_guard h
  refine z_irem (pc := 26) X.1 dX5_drawn_26 ⟨g3.1, g3.2.1, g3.2.2.1, g3.2.2.2⟩ ?_
  exact z_iret (pc := 27) X hW (z_p1 h) (z_p2 h) dX5_drawn_27
-- X5_lots
theorem iX5_lots_1 : ∀ w ∈ wsX50, w ∈ wsX5_lots := by decide +kernel
section
variable {p : Program} {l : Launch} {e : Env} {s : State} {m : MethodId} {args : Array Value} {below : List Frame} {meth : Method} {c : Code} {D : va_G} {cy : ClassId × ClassId} {ad : Nat → Nat} {A : Nat → Prop} {res : (Int × mm)}
theorem CJ5_lots_146 (X : zX p s m args meth c cX5_lots RX5 wsX5_lots 7 D cy ad (some .int) A) (N : Nat) (rec52 : Int → Int → Int → Int → mm → Option (Int × mm)) (hrec52 : ∀ (x1 : Int) (x3 : Int) (x4 : Int) (x5 : Int) (μ : mm), rec52 x1 x3 x4 x5 μ = some res → ∀ (H : Heap) (locs : List Loc) (ls : Array Slot), zW D cy ad A s.heap μ H locs → lv_has ls 7 [(0, .ref (ad 0)), (1, .int (iO x1)), (3, .int (iO x3)), (4, .int (iO x4)), (5, .int (iO x5))] → W p l e (rmD 6) s m args below meth c H locs 0 0 (MQ below (zQi D cy ad A res.1 res.2) args s 0 0 A) (F0 m 52 ls [])) : ∀ (x1 : Int) (x3 : Int) (x5 : Int) (y0 : Int) (y2 : Int) (y3 : Int) (μ : mm), J5_lots_146 N rec52 x1 x3 x5 y0 y2 y3 μ = some res → ∀ (H : Heap) (locs : List Loc) (ls : Array Slot), zW D cy ad A s.heap μ H locs → lv_has ls 7 [(0, .ref (ad 0)), (1, .int (iO x1)), (3, .int (iO x3)), (5, .int (iO x5))] → W p l e (rmD 6) s m args below meth c H locs 0 0 (MQ below (zQi D cy ad A res.1 res.2) args s 0 0 A) (F0 m 146 ls [.int (iO y0), .ref (ad 1), .int (iO y2), .int (iO y3)]) := by
  intro x1 x3 x5 y0 y2 y3 μ h H locs ls hW hl
  rw [J5_lots_146] at h
  obtain ⟨q13, eq13, h⟩ := z_bind h
  refine z_callSI (pc := 146) (n := 2) (As := [.ref (ad 1), .int (iO y0)]) (rest := [.int (iO y2), .int (iO y3)]) X hW hl (C5_allOf l N 1 y0 (by decide) μ eq13) gX5_lots_X5_allOf rfl (by decide +kernel) rfl (by decide) rfl (Nat.le_of_ble_eq_true rfl) dX5_lots_146 (fun H locs hW => ?_)
  refine z_isub (pc := 149) X.1 dX5_lots_149 ?_
  refine z_iadd (pc := 150) X.1 dX5_lots_150 ?_
  obtain ⟨w14, ew14, h⟩ := z_bnd h
  refine z_istore (pc := 151) (i := 4) X.1 [(4, .int (iO w14)), (0, .ref (ad 0)), (1, .int (iO x1)), (3, .int (iO x3)), (5, .int (iO x5))] hl ew14 (by decide) rfl dX5_lots_151 (fun ls hl => ?_)
  refine z_iinc (pc := 153) (i := 5) X.1 [(5, .int (iO (x5 + 1))), (4, .int (iO w14)), (0, .ref (ad 0)), (1, .int (iO x1)), (3, .int (iO x3))] hl 4 rfl rfl (by decide) rfl dX5_lots_153 (fun ls hl => ?_)
  refine z_goto (pc := 156) (tgt := 52) X.1 dX5_lots_156 (by decide) ?_
  exact hrec52 x1 x3 w14 (x5 + 1) μ h _ _ ls hW (lv_sub hl [2, 3, 4, 1, 0] rfl)
theorem CJ5_lots_130 (X : zX p s m args meth c cX5_lots RX5 wsX5_lots 7 D cy ad (some .int) A) (N : Nat) (rec52 : Int → Int → Int → Int → mm → Option (Int × mm)) (hrec52 : ∀ (x1 : Int) (x3 : Int) (x4 : Int) (x5 : Int) (μ : mm), rec52 x1 x3 x4 x5 μ = some res → ∀ (H : Heap) (locs : List Loc) (ls : Array Slot), zW D cy ad A s.heap μ H locs → lv_has ls 7 [(0, .ref (ad 0)), (1, .int (iO x1)), (3, .int (iO x3)), (4, .int (iO x4)), (5, .int (iO x5))] → W p l e (rmD 6) s m args below meth c H locs 0 0 (MQ below (zQi D cy ad A res.1 res.2) args s 0 0 A) (F0 m 52 ls [])) : ∀ (x1 : Int) (x3 : Int) (x5 : Int) (y0 : Int) (y2 : Int) (μ : mm), J5_lots_130 N rec52 x1 x3 x5 y0 y2 μ = some res → ∀ (H : Heap) (locs : List Loc) (ls : Array Slot), zW D cy ad A s.heap μ H locs → lv_has ls 7 [(0, .ref (ad 0)), (1, .int (iO x1)), (3, .int (iO x3)), (5, .int (iO x5))] → W p l e (rmD 6) s m args below meth c H locs 0 0 (MQ below (zQi D cy ad A res.1 res.2) args s 0 0 A) (F0 m 130 ls [.int (iO y0), .ref (ad 2), .int (iO y2)]) := by
  intro x1 x3 x5 y0 y2 μ h H locs ls hW hl
  rw [J5_lots_130] at h
  obtain ⟨q11, eq11, h⟩ := z_bind h
  refine z_callSI (pc := 130) (n := 2) (As := [.ref (ad 2), .int (iO y0)]) (rest := [.int (iO y2)]) X hW hl (C5_allOf l N 2 y0 (by decide) μ eq11) gX5_lots_X5_allOf rfl (by decide +kernel) rfl (by decide) rfl (Nat.le_of_ble_eq_true rfl) dX5_lots_130 (fun H locs hW => ?_)
  refine z_aload_n (pc := 133) X.1 hl 0 rfl rfl dX5_lots_133 ?_
  refine z_get1 (pc := 134) X.1 hW rfl iX5_lots_1 0 (by decide) rfl (by decide +kernel) dX5_lots_134 ?_
  refine z_iload_n (pc := 137) X.1 hl 2 rfl rfl dX5_lots_137 ?_
  obtain ⟨g12, h⟩ := z_guard h
  refine z_if_ne (pc := 138) (tgt := 145) X.1 dX5_lots_138 (by decide) g12 h (fun c15 h => ?_) (fun c15 h => ?_)
  · refine z_iconst (pc := 145) X.1 dX5_lots_145 ?_
    exact CJ5_lots_146 X N rec52 hrec52 x1 x3 x5 5 q11 y2 μ h _ _ ls hW (lv_sub hl [0, 1, 2, 3] rfl)
  · refine z_iconst (pc := 141) X.1 dX5_lots_141 ?_
    refine z_goto (pc := 142) (tgt := 146) X.1 dX5_lots_142 (by decide) ?_
    exact CJ5_lots_146 X N rec52 hrec52 x1 x3 x5 4 q11 y2 μ h _ _ ls hW (lv_sub hl [0, 1, 2, 3] rfl)
theorem CL5_lots_72 (X : zX p s m args meth c cX5_lots RX5 wsX5_lots 7 D cy ad (some .int) A) (N : Nat) (rec52 : Int → Int → Int → Int → mm → Option (Int × mm)) (hrec52 : ∀ (x1 : Int) (x3 : Int) (x4 : Int) (x5 : Int) (μ : mm), rec52 x1 x3 x4 x5 μ = some res → ∀ (H : Heap) (locs : List Loc) (ls : Array Slot), zW D cy ad A s.heap μ H locs → lv_has ls 7 [(0, .ref (ad 0)), (1, .int (iO x1)), (3, .int (iO x3)), (4, .int (iO x4)), (5, .int (iO x5))] → W p l e (rmD 6) s m args below meth c H locs 0 0 (MQ below (zQi D cy ad A res.1 res.2) args s 0 0 A) (F0 m 52 ls [])) : ∀ (k : Nat) (x1 : Int) (x3 : Int) (x4 : Int) (x5 : Int) (x6 : Int) (μ : mm), L5_lots_72 N rec52 k x1 x3 x4 x5 x6 μ = some res → ∀ (H : Heap) (locs : List Loc) (ls : Array Slot), zW D cy ad A s.heap μ H locs → lv_has ls 7 [(0, .ref (ad 0)), (1, .int (iO x1)), (3, .int (iO x3)), (4, .int (iO x4)), (5, .int (iO x5)), (6, .int (iO x6))] → W p l e (rmD 6) s m args below meth c H locs 0 0 (MQ below (zQi D cy ad A res.1 res.2) args s 0 0 A) (F0 m 72 ls []) := by
  intro k
  induction k with
  | zero =>
    intro x1 x3 x4 x5 x6 μ h H locs ls hW hl
    exact absurd h (by rw [L5_lots_72]; exact fun z => by cases z)
  | succ k ih =>
    intro x1 x3 x4 x5 x6 μ h H locs ls hW hl
    rw [L5_lots_72] at h
    refine z_iload (pc := 72) X.1 hl 5 rfl dX5_lots_72 ?_
    refine z_aload_n (pc := 74) X.1 hl 0 rfl rfl dX5_lots_74 ?_
    refine z_get1 (pc := 75) X.1 hW rfl iX5_lots_1 0 (by decide) rfl (by decide +kernel) dX5_lots_75 ?_
    refine z_iconst (pc := 78) X.1 dX5_lots_78 ?_
    refine z_iald (pc := 79) X.1 hW rfl ⟨(by decide), (by decide)⟩ dX5_lots_79 ?_
    obtain ⟨g8, h⟩ := z_guard h
    refine z_icmp_ge (pc := 80) (tgt := 106) X.1 dX5_lots_80 (by decide) ⟨g8.1, g8.2⟩ h (fun c20 h => ?_) (fun c20 h => ?_)
    · refine z_aload_n (pc := 106) X.1 hl 0 rfl rfl dX5_lots_106 ?_
      refine z_get1 (pc := 107) X.1 hW rfl iX5_lots_1 1 (by decide) rfl (by decide +kernel) dX5_lots_107 ?_
      refine z_bipush (pc := 110) X.1 dX5_lots_110 (by decide) ?_
      obtain ⟨q9, eq9, h⟩ := z_bind h
      refine z_callSV (pc := 112) (n := 2) (As := [.ref (ad 2), .int (iO 20)]) (rest := []) X hW hl (C5_daysOn l N 2 20 (by decide) μ eq9) gX5_lots_X5_daysOn rfl (by decide +kernel) rfl (by decide) rfl (Nat.le_of_ble_eq_true rfl) dX5_lots_112 (fun H locs hW => ?_)
      refine z_iload (pc := 115) X.1 hl 3 rfl dX5_lots_115 ?_
      refine z_aload_n (pc := 117) X.1 hl 0 rfl rfl dX5_lots_117 ?_
      refine z_get1 (pc := 118) X.1 hW rfl iX5_lots_1 1 (by decide) rfl (by decide +kernel) dX5_lots_118 ?_
      refine z_iload_n (pc := 121) X.1 hl 2 rfl rfl dX5_lots_121 ?_
      obtain ⟨g10, h⟩ := z_guard h
      refine z_if_ne (pc := 122) (tgt := 129) X.1 dX5_lots_122 (by decide) g10 h (fun c16 h => ?_) (fun c16 h => ?_)
      · refine z_iconst (pc := 129) X.1 dX5_lots_129 ?_
        exact CJ5_lots_130 X N rec52 hrec52 x1 x3 x5 5 x4 q9 h _ _ ls hW (lv_sub hl [0, 1, 2, 4] rfl)
      · refine z_iconst (pc := 125) X.1 dX5_lots_125 ?_
        refine z_goto (pc := 126) (tgt := 130) X.1 dX5_lots_126 (by decide) ?_
        exact CJ5_lots_130 X N rec52 hrec52 x1 x3 x5 4 x4 q9 h _ _ ls hW (lv_sub hl [0, 1, 2, 4] rfl)
    · refine z_aload_n (pc := 83) X.1 hl 0 rfl rfl dX5_lots_83 ?_
      refine z_get1 (pc := 84) X.1 hW rfl iX5_lots_1 1 (by decide) rfl (by decide +kernel) dX5_lots_84 ?_
      refine z_iload (pc := 87) X.1 hl 5 rfl dX5_lots_87 ?_
      refine z_iconst (pc := 89) X.1 dX5_lots_89 ?_
      refine z_callSI (pc := 90) (n := 2) (As := [.int (iO x6), .int (iO 2)]) (rest := [.ref (ad 2)]) X hW hl (C5_of l N x6 2 μ) gX5_lots_X5_of rfl (by decide +kernel) rfl (by decide) rfl (Nat.le_of_ble_eq_true rfl) dX5_lots_90 (fun H locs hW => ?_)
      refine z_aload_n (pc := 93) X.1 hl 0 rfl rfl dX5_lots_93 ?_
      refine z_bipush (pc := 94) X.1 dX5_lots_94 (by decide) ?_
      obtain ⟨q17, eq17, h⟩ := z_bind h
      refine z_callV1I (pc := 96) (n := 1) (As := [.int (iO 30)]) (rest := [.int (iO ((4 + (6 * x6)) + 2)), .ref (ad 2)]) X hW hl rfl (C5_drawn l N 30 μ eq17) gX5_lots_X5_drawn rfl (by decide +kernel) rfl (by decide) rfl (Nat.le_of_ble_eq_true rfl) dX5_lots_96 (fun H locs hW => ?_)
      obtain ⟨g18, h⟩ := z_guard h
      obtain ⟨μ19, eμ19, h⟩ := z_bnd h
      refine z_iast (pc := 99) X.1 hW rfl ⟨g18.1, g18.2⟩ dX5_lots_99 (fun H locs hW => ?_)
      replace hW : zW D cy ad A s.heap μ19 H locs := by rw [eμ19]; exact hW
      refine z_iinc (pc := 100) (i := 6) X.1 [(6, .int (iO (x6 + 1))), (0, .ref (ad 0)), (1, .int (iO x1)), (3, .int (iO x3)), (4, .int (iO x4)), (5, .int (iO x5))] hl 5 rfl rfl (by decide) rfl dX5_lots_100 (fun ls hl => ?_)
      refine z_goto (pc := 103) (tgt := 72) X.1 dX5_lots_103 (by decide) ?_
      exact ih x1 x3 x4 x5 (x6 + 1) μ19 h _ _ ls hW (lv_sub hl [1, 2, 3, 4, 5, 0] rfl)
theorem CL5_lots_52 (X : zX p s m args meth c cX5_lots RX5 wsX5_lots 7 D cy ad (some .int) A) (N : Nat) : ∀ (k : Nat) (x1 : Int) (x3 : Int) (x4 : Int) (x5 : Int) (μ : mm), L5_lots_52 N k x1 x3 x4 x5 μ = some res → ∀ (H : Heap) (locs : List Loc) (ls : Array Slot), zW D cy ad A s.heap μ H locs → lv_has ls 7 [(0, .ref (ad 0)), (1, .int (iO x1)), (3, .int (iO x3)), (4, .int (iO x4)), (5, .int (iO x5))] → W p l e (rmD 6) s m args below meth c H locs 0 0 (MQ below (zQi D cy ad A res.1 res.2) args s 0 0 A) (F0 m 52 ls []) := by
  intro k
  induction k with
  | zero =>
    intro x1 x3 x4 x5 μ h H locs ls hW hl
    exact absurd h (by rw [L5_lots_52]; exact fun z => by cases z)
  | succ k ih =>
    intro x1 x3 x4 x5 μ h H locs ls hW hl
    rw [L5_lots_52] at h
    refine z_iload (pc := 52) X.1 hl 4 rfl dX5_lots_52 ?_
    refine z_iload_n (pc := 54) X.1 hl 1 rfl rfl dX5_lots_54 ?_
    obtain ⟨g6, h⟩ := z_guard h
    refine z_icmp_ge (pc := 55) (tgt := 159) X.1 dX5_lots_55 (by decide) ⟨g6.1, g6.2⟩ h (fun c21 h => ?_) (fun c21 h => ?_)
    · refine z_iload (pc := 159) X.1 hl 3 rfl dX5_lots_159 ?_
      exact z_iret (pc := 161) X hW (z_p1 h) (z_p2 h) dX5_lots_161
    · refine z_aload_n (pc := 58) X.1 hl 0 rfl rfl dX5_lots_58 ?_
      refine z_get1 (pc := 59) X.1 hW rfl iX5_lots_1 0 (by decide) rfl (by decide +kernel) dX5_lots_59 ?_
      refine z_aload_n (pc := 62) X.1 hl 0 rfl rfl dX5_lots_62 ?_
      refine z_get1 (pc := 63) X.1 hW rfl iX5_lots_1 1 (by decide) rfl (by decide +kernel) dX5_lots_63 ?_
      obtain ⟨q7, eq7, h⟩ := z_bind h
      refine z_callSV (pc := 66) (n := 2) (As := [.ref (ad 1), .ref (ad 2)]) (rest := []) X hW hl (C5_copies l N 1 2 (by decide) (by decide) μ eq7) gX5_lots_X5_copies rfl (by decide +kernel) rfl (by decide) rfl (Nat.le_of_ble_eq_true rfl) dX5_lots_66 (fun H locs hW => ?_)
      refine z_iconst (pc := 69) X.1 dX5_lots_69 ?_
      refine z_istore (pc := 70) (i := 6) X.1 [(6, .int (iO 0)), (0, .ref (ad 0)), (1, .int (iO x1)), (3, .int (iO x3)), (4, .int (iO x4)), (5, .int (iO x5))] hl rfl (by decide) rfl dX5_lots_70 (fun ls hl => ?_)
      exact CL5_lots_72 X N (L5_lots_52 N k) ih N x1 x3 x4 x5 0 q7 h _ _ ls hW (lv_sub hl [1, 2, 3, 4, 5, 0] rfl)
end
theorem C5_lots (l : Launch) {D : va_G} {cy : ClassId × ClassId} {ad : Nat → Nat} (N : Nat) (a0 : Int) (a1 : Int) (a2 : Int) (μ : mm) {res : (Int × mm)} (h : M5_lots N a0 a1 a2 μ = some res) : zI l yX5_lots wsX5_lots 6 D cy ad [.ref (ad 0), .int (iO a0), .int (iO a1), .int (iO a2)] μ res.1 res.2 := by
  refine zI.of RX5 rfl (by decide) rfl (Nat.le_of_ble_eq_true rfl) ?_
  intro p e s m args below meth c A X hW ls hl
  have hl : lv_has ls 7 [(0, .ref (ad 0)), (1, .int (iO a0)), (2, .int (iO a1)), (3, .int (iO a2))] := hl
  unfold M5_lots at h
  refine z_iload_n (pc := 0) X.1 hl 1 rfl rfl dX5_lots_0 ?_
  refine z_iconst (pc := 1) X.1 dX5_lots_1 ?_
  obtain ⟨g1, h⟩ := z_guard h
  refine z_icmp_ge (pc := 2) (tgt := 12) X.1 dX5_lots_2 (by decide) ⟨g1, (by decide)⟩ h (fun c27 h => ?_) (fun c27 h => ?_)
  · refine z_iload_n (pc := 12) X.1 hl 1 rfl rfl dX5_lots_12 ?_
    refine z_bipush (pc := 13) X.1 dX5_lots_13 (by decide) ?_
    obtain ⟨g2, h⟩ := z_guard h
    refine z_icmp_le (pc := 15) (tgt := 25) X.1 dX5_lots_15 (by decide) ⟨g2, (by decide)⟩ h (fun c25 h => ?_) (fun c25 h => ?_)
    · refine z_iload_n (pc := 25) X.1 hl 3 rfl rfl dX5_lots_25 ?_
      refine z_iconst (pc := 26) X.1 dX5_lots_26 ?_
      refine z_iconst (pc := 27) X.1 dX5_lots_27 ?_
      obtain ⟨q3, eq3, h⟩ := z_bind h
      refine z_callSI (pc := 28) (n := 3) (As := [.int (iO a2), .int (iO 0), .int (iO 1)]) (rest := []) X hW hl (C5_isIn l N a2 0 1 μ eq3) gX5_lots_X5_isIn rfl (by decide +kernel) rfl (by decide) rfl (Nat.le_of_ble_eq_true rfl) dX5_lots_28 (fun H locs hW => ?_)
      obtain ⟨g4, h⟩ := z_guard h
      refine z_if_ne (pc := 31) (tgt := 41) X.1 dX5_lots_31 (by decide) g4 h (fun c23 h => ?_) (fun c23 h => ?_)
      · refine z_aload_n (pc := 41) X.1 hl 0 rfl rfl dX5_lots_41 ?_
        refine z_iload_n (pc := 42) X.1 hl 2 rfl rfl dX5_lots_42 ?_
        obtain ⟨μ5, eμ5, h⟩ := z_bnd h
        refine z_put1_12 (pc := 43) X.1 hW rfl iX5_lots_1 (by decide +kernel) dX5_lots_43 (fun H locs hW => ?_)
        rw [← eμ5] at hW
        refine z_iconst (pc := 46) X.1 dX5_lots_46 ?_
        refine z_istore (pc := 47) (i := 4) X.1 [(4, .int (iO 0)), (0, .ref (ad 0)), (1, .int (iO a0)), (2, .int (iO a1)), (3, .int (iO a2))] hl rfl (by decide) rfl dX5_lots_47 (fun ls hl => ?_)
        refine z_iconst (pc := 49) X.1 dX5_lots_49 ?_
        refine z_istore (pc := 50) (i := 5) X.1 [(5, .int (iO 0)), (4, .int (iO 0)), (0, .ref (ad 0)), (1, .int (iO a0)), (2, .int (iO a1)), (3, .int (iO a2))] hl rfl (by decide) rfl dX5_lots_50 (fun ls hl => ?_)
        exact CL5_lots_52 X N N a0 a2 0 0 μ5 h _ _ ls hW (lv_sub hl [2, 3, 5, 1, 0] rfl)
      · refine z_aload_n (pc := 34) X.1 hl 0 rfl rfl dX5_lots_34 ?_
        refine z_bipush (pc := 35) X.1 dX5_lots_35 (by decide) ?_
        obtain ⟨q22, eq22, h⟩ := z_bind h
        refine z_callV1I (pc := 37) (n := 1) (As := [.int (iO (-2))]) (rest := []) X hW hl rfl (C5_no l N (-2) μ eq22) gX5_lots_X5_no rfl (by decide +kernel) rfl (by decide) rfl (Nat.le_of_ble_eq_true rfl) dX5_lots_37 (fun H locs hW => ?_)
        exact z_iret (pc := 40) X hW (z_p1 h) (z_p2 h) dX5_lots_40
    · refine z_aload_n (pc := 18) X.1 hl 0 rfl rfl dX5_lots_18 ?_
      refine z_bipush (pc := 19) X.1 dX5_lots_19 (by decide) ?_
      obtain ⟨q24, eq24, h⟩ := z_bind h
      refine z_callV1I (pc := 21) (n := 1) (As := [.int (iO (-6))]) (rest := []) X hW hl rfl (C5_no l N (-6) μ eq24) gX5_lots_X5_no rfl (by decide +kernel) rfl (by decide) rfl (Nat.le_of_ble_eq_true rfl) dX5_lots_21 (fun H locs hW => ?_)
      exact z_iret (pc := 24) X hW (z_p1 h) (z_p2 h) dX5_lots_24
  · refine z_aload_n (pc := 5) X.1 hl 0 rfl rfl dX5_lots_5 ?_
    refine z_bipush (pc := 6) X.1 dX5_lots_6 (by decide) ?_
    obtain ⟨q26, eq26, h⟩ := z_bind h
    refine z_callV1I (pc := 8) (n := 1) (As := [.int (iO (-4))]) (rest := []) X hW hl rfl (C5_no l N (-4) μ eq26) gX5_lots_X5_no rfl (by decide +kernel) rfl (by decide) rfl (Nat.le_of_ble_eq_true rfl) dX5_lots_8 (fun H locs hW => ?_)
    exact z_iret (pc := 11) X hW (z_p1 h) (z_p2 h) dX5_lots_11
-- X5_image
theorem iX5_image_1 : ∀ w ∈ wsX50, w ∈ wsX5_image := by decide +kernel
theorem C5_image (l : Launch) {D : va_G} {cy : ClassId × ClassId} {ad : Nat → Nat} (N : Nat)  (μ : mm) {res : (Int × mm)} (h : M5_image N μ = some res) : zI l yX5_image wsX5_image 1 D cy ad [.ref (ad 0)] μ res.1 res.2 := by
  refine zI.of RX5 rfl (by decide) rfl (Nat.le_of_ble_eq_true rfl) ?_
  intro p e s m args below meth c A X hW ls hl
  have hl : lv_has ls 1 [(0, .ref (ad 0))] := hl
  unfold M5_image at h
  refine z_aload_n (pc := 0) X.1 hl 0 rfl rfl dX5_image_0 ?_
  refine z_get1 (pc := 1) X.1 hW rfl iX5_image_1 0 (by decide) rfl (by decide +kernel) dX5_image_1 ?_
  refine z_aload_n (pc := 4) X.1 hl 0 rfl rfl dX5_image_4 ?_
  refine z_get1 (pc := 5) X.1 hW rfl iX5_image_1 2 (by decide) rfl (by decide +kernel) dX5_image_5 ?_
  obtain ⟨q1, eq1, h⟩ := z_bind h
  refine z_callSV (pc := 8) (n := 2) (As := [.ref (ad 1), .ref (ad 3)]) (rest := []) X hW hl (C5_copies l N 1 3 (by decide) (by decide) μ eq1) gX5_image_X5_copies rfl (by decide +kernel) rfl (by decide) rfl (Nat.le_of_ble_eq_true rfl) dX5_image_8 (fun H locs hW => ?_)
  refine z_aload_n (pc := 11) X.1 hl 0 rfl rfl dX5_image_11 ?_
  refine z_iconst (pc := 12) X.1 dX5_image_12 ?_
  obtain ⟨μ2, eμ2, h⟩ := z_bnd h
  refine z_put1_4 (pc := 13) X.1 hW rfl iX5_image_1 (by decide) (by decide +kernel) dX5_image_13 (fun H locs hW => ?_)
  rw [← eμ2] at hW
  refine z_aload_n (pc := 16) X.1 hl 0 rfl rfl dX5_image_16 ?_
  refine z_get1 (pc := 17) X.1 hW rfl iX5_image_1 0 (by decide) rfl (by decide +kernel) dX5_image_17 ?_
  refine z_iconst (pc := 20) X.1 dX5_image_20 ?_
  refine z_iald (pc := 21) X.1 hW rfl ⟨(by decide), (by decide)⟩ dX5_image_21 ?_
  exact z_iret (pc := 22) X hW (z_p1 h) (z_p2 h) dX5_image_22
-- X5_on
theorem iX5_on_1 : ∀ w ∈ wsX50, w ∈ wsX5_on := by decide +kernel
theorem C5_on (l : Launch) {D : va_G} {cy : ClassId × ClassId} {ad : Nat → Nat} (N : Nat)  (μ : mm) {res : (Int × mm)} (h : M5_on N μ = some res) : zI l yX5_on wsX5_on 1 D cy ad [.ref (ad 0)] μ res.1 res.2 := by
  refine zI.of RX5 rfl (by decide) rfl (Nat.le_of_ble_eq_true rfl) ?_
  intro p e s m args below meth c A X hW ls hl
  have hl : lv_has ls 1 [(0, .ref (ad 0))] := hl
  unfold M5_on at h
  refine z_aload_n (pc := 0) X.1 hl 0 rfl rfl dX5_on_0 ?_
  refine z_get1 (pc := 1) X.1 hW rfl iX5_on_1 4 (by decide) rfl (by decide +kernel) dX5_on_1 ?_
  obtain ⟨g1, h⟩ := z_guard h
  refine z_if_ne (pc := 4) (tgt := 14) X.1 dX5_on_4 (by decide) g1 h (fun c4 h => ?_) (fun c4 h => ?_)
  · refine z_aload_n (pc := 14) X.1 hl 0 rfl rfl dX5_on_14 ?_
    refine z_get1 (pc := 15) X.1 hW rfl iX5_on_1 2 (by decide) rfl (by decide +kernel) dX5_on_15 ?_
    refine z_aload_n (pc := 18) X.1 hl 0 rfl rfl dX5_on_18 ?_
    refine z_get1 (pc := 19) X.1 hW rfl iX5_on_1 0 (by decide) rfl (by decide +kernel) dX5_on_19 ?_
    obtain ⟨q2, eq2, h⟩ := z_bind h
    refine z_callSV (pc := 22) (n := 2) (As := [.ref (ad 3), .ref (ad 1)]) (rest := []) X hW hl (C5_copies l N 3 1 (by decide) (by decide) μ eq2) gX5_on_X5_copies rfl (by decide +kernel) rfl (by decide) rfl (Nat.le_of_ble_eq_true rfl) dX5_on_22 (fun H locs hW => ?_)
    refine z_aload_n (pc := 25) X.1 hl 0 rfl rfl dX5_on_25 ?_
    refine z_get1 (pc := 26) X.1 hW rfl iX5_on_1 0 (by decide) rfl (by decide +kernel) dX5_on_26 ?_
    refine z_iconst (pc := 29) X.1 dX5_on_29 ?_
    refine z_iald (pc := 30) X.1 hW rfl ⟨(by decide), (by decide)⟩ dX5_on_30 ?_
    exact z_iret (pc := 31) X hW (z_p1 h) (z_p2 h) dX5_on_31
  · refine z_aload_n (pc := 7) X.1 hl 0 rfl rfl dX5_on_7 ?_
    refine z_bipush (pc := 8) X.1 dX5_on_8 (by decide) ?_
    obtain ⟨q3, eq3, h⟩ := z_bind h
    refine z_callV1I (pc := 10) (n := 1) (As := [.int (iO (-3))]) (rest := []) X hW hl rfl (C5_no l N (-3) μ eq3) gX5_on_X5_no rfl (by decide +kernel) rfl (by decide) rfl (Nat.le_of_ble_eq_true rfl) dX5_on_10 (fun H locs hW => ?_)
    exact z_iret (pc := 13) X hW (z_p1 h) (z_p2 h) dX5_on_13
-- X5_count
theorem iX5_count_1 : ∀ w ∈ wsX50, w ∈ wsX5_count := by decide +kernel
section
variable {p : Program} {l : Launch} {e : Env} {s : State} {m : MethodId} {args : Array Value} {below : List Frame} {meth : Method} {c : Code} {D : va_G} {cy : ClassId × ClassId} {ad : Nat → Nat} {A : Nat → Prop} {res : Int} {μ0 : mm}
theorem CJ5_count_119 (X : zX p s m args meth c cX5_count RX5 wsX5_count 4 D cy ad (some .int) A) (N : Nat) (rec90 : Int → Int → mm → Option Int) (hrec90 : ∀ (x2 : Int) (x3 : Int) (μ : mm) (_ : μ = μ0), rec90 x2 x3 μ = some res → ∀ (H : Heap) (locs : List Loc) (ls : Array Slot), zW D cy ad A s.heap μ H locs → lv_has ls 4 [(0, .ref (ad 0)), (2, .int (iO x2)), (3, .int (iO x3))] → W p l e (rmD 2) s m args below meth c H locs 0 0 (MQ below (zQi D cy ad A res μ0) args s 0 0 A) (F0 m 90 ls [])) : ∀ (x3 : Int) (y0 : Int) (y1 : Int) (μ : mm) (_ : μ = μ0), J5_count_119 N rec90 x3 y0 y1 μ = some res → ∀ (H : Heap) (locs : List Loc) (ls : Array Slot), zW D cy ad A s.heap μ H locs → lv_has ls 4 [(0, .ref (ad 0)), (3, .int (iO x3))] → W p l e (rmD 2) s m args below meth c H locs 0 0 (MQ below (zQi D cy ad A res μ0) args s 0 0 A) (F0 m 119 ls [.int (iO y0), .int (iO y1)]) := by
  intro x3 y0 y1 μ em h H locs ls hW hl
  rw [J5_count_119] at h
  refine z_iadd (pc := 119) X.1 dX5_count_119 ?_
  obtain ⟨w17, ew17, h⟩ := z_bnd h
  refine z_istore_n (pc := 120) (i := 2) X.1 [(2, .int (iO w17)), (0, .ref (ad 0)), (3, .int (iO x3))] hl ew17 rfl (by decide) rfl dX5_count_120 (fun ls hl => ?_)
  refine z_iinc (pc := 121) (i := 3) X.1 [(3, .int (iO (x3 + 1))), (2, .int (iO w17)), (0, .ref (ad 0))] hl 2 rfl rfl (by decide) rfl dX5_count_121 (fun ls hl => ?_)
  refine z_goto (pc := 124) (tgt := 90) X.1 dX5_count_124 (by decide) ?_
  exact hrec90 w17 (x3 + 1) μ em h _ _ ls hW (lv_sub hl [2, 1, 0] rfl)
theorem CL5_count_90 (X : zX p s m args meth c cX5_count RX5 wsX5_count 4 D cy ad (some .int) A) (N : Nat) : ∀ (k : Nat) (x2 : Int) (x3 : Int) (μ : mm) (_ : μ = μ0), L5_count_90 N k x2 x3 μ = some res → ∀ (H : Heap) (locs : List Loc) (ls : Array Slot), zW D cy ad A s.heap μ H locs → lv_has ls 4 [(0, .ref (ad 0)), (2, .int (iO x2)), (3, .int (iO x3))] → W p l e (rmD 2) s m args below meth c H locs 0 0 (MQ below (zQi D cy ad A res μ0) args s 0 0 A) (F0 m 90 ls []) := by
  intro k
  induction k with
  | zero =>
    intro x2 x3 μ em h H locs ls hW hl
    exact absurd h (by rw [L5_count_90]; exact fun z => by cases z)
  | succ k ih =>
    intro x2 x3 μ em h H locs ls hW hl
    rw [L5_count_90] at h
    refine z_iload_n (pc := 90) X.1 hl 2 rfl rfl dX5_count_90 ?_
    refine z_aload_n (pc := 91) X.1 hl 0 rfl rfl dX5_count_91 ?_
    refine z_get1 (pc := 92) X.1 hW rfl iX5_count_1 0 (by decide) rfl (by decide +kernel) dX5_count_92 ?_
    refine z_iconst (pc := 95) X.1 dX5_count_95 ?_
    refine z_iald (pc := 96) X.1 hW rfl ⟨(by decide), (by decide)⟩ dX5_count_96 ?_
    obtain ⟨g14, h⟩ := z_guard h
    refine z_icmp_ge (pc := 97) (tgt := 127) X.1 dX5_count_97 (by decide) ⟨g14.1, g14.2⟩ h (fun c19 h => ?_) (fun c19 h => ?_)
    · refine z_iload_n (pc := 127) X.1 hl 1 rfl rfl dX5_count_127 ?_
      exact z_iret (pc := 128) X hW (Option.some.inj h) em dX5_count_128
    · refine z_iload_n (pc := 100) X.1 hl 1 rfl rfl dX5_count_100 ?_
      refine z_aload_n (pc := 101) X.1 hl 0 rfl rfl dX5_count_101 ?_
      refine z_get1 (pc := 102) X.1 hW rfl iX5_count_1 0 (by decide) rfl (by decide +kernel) dX5_count_102 ?_
      refine z_iload_n (pc := 105) X.1 hl 2 rfl rfl dX5_count_105 ?_
      refine z_iconst (pc := 106) X.1 dX5_count_106 ?_
      refine z_callSI (pc := 107) (n := 2) (As := [.int (iO x3), .int (iO 3)]) (rest := [.ref (ad 1), .int (iO x2)]) X hW hl (C5_of l N x3 3 μ) gX5_count_X5_of rfl (by decide +kernel) rfl (by decide) rfl (Nat.le_of_ble_eq_true rfl) dX5_count_107 (fun H locs hW => ?_)
      obtain ⟨g15, h⟩ := z_guard h
      refine z_iald (pc := 110) X.1 hW rfl ⟨g15.1, g15.2⟩ dX5_count_110 ?_
      obtain ⟨g16, h⟩ := z_guard h
      refine z_if_le (pc := 111) (tgt := 118) X.1 dX5_count_111 (by decide) g16 h (fun c18 h => ?_) (fun c18 h => ?_)
      · refine z_iconst (pc := 118) X.1 dX5_count_118 ?_
        exact CJ5_count_119 X N (L5_count_90 N k) ih x3 0 x2 μ em h _ _ ls hW (lv_sub hl [0, 2] rfl)
      · refine z_iconst (pc := 114) X.1 dX5_count_114 ?_
        refine z_goto (pc := 115) (tgt := 119) X.1 dX5_count_115 (by decide) ?_
        exact CJ5_count_119 X N (L5_count_90 N k) ih x3 1 x2 μ em h _ _ ls hW (lv_sub hl [0, 2] rfl)
end
theorem C5_count (l : Launch) {D : va_G} {cy : ClassId × ClassId} {ad : Nat → Nat} (N : Nat) (a0 : Int) (μ0 : mm) {res : Int} (h : M5_count N a0 μ0 = some res) : zI l yX5_count wsX5_count 2 D cy ad [.ref (ad 0), .int (iO a0)] μ0 res μ0 := by
  refine zI.of RX5 rfl (by decide) rfl (Nat.le_of_ble_eq_true rfl) ?_
  intro p e s m args below meth c A X hW ls hl
  have hl : lv_has ls 4 [(0, .ref (ad 0)), (1, .int (iO a0))] := hl
  unfold M5_count at h
  refine z_iload_n (pc := 0) X.1 hl 1 rfl rfl dX5_count_0 ?_
  refine z_bipush (pc := 1) X.1 dX5_count_1 (by decide) ?_
  refine z_bipush (pc := 3) X.1 dX5_count_3 (by decide) ?_
  obtain ⟨q1, eq1, h⟩ := z_bind h
  refine z_callSI (pc := 5) (n := 3) (As := [.int (iO a0), .int (iO 11), .int (iO 16)]) (rest := []) X hW hl (C5_isIn l N a0 11 16 μ0 eq1) gX5_count_X5_isIn rfl (by decide +kernel) rfl (by decide) rfl (Nat.le_of_ble_eq_true rfl) dX5_count_5 (fun H locs hW => ?_)
  obtain ⟨g2, h⟩ := z_guard h
  refine z_if_eq (pc := 8) (tgt := 21) X.1 dX5_count_8 (by decide) g2 h (fun c24 h => ?_) (fun c24 h => ?_)
  · refine z_iconst (pc := 21) X.1 dX5_count_21 ?_
    refine z_istore_n (pc := 22) (i := 2) X.1 [(2, .int (iO 0)), (0, .ref (ad 0)), (1, .int (iO a0))] hl rfl rfl (by decide) rfl dX5_count_22 (fun ls hl => ?_)
    refine z_iload_n (pc := 23) X.1 hl 2 rfl rfl dX5_count_23 ?_
    obtain ⟨g3, h⟩ := z_guard h
    by_cases c5 : a0 = 0
    · rw [if_pos c5] at h
      refine z_tin (pc := 24) (v := 0) (tgt := 72) X.1 dX5_count_24 c5 (by decide) (by decide) rfl (by decide) ?_
      refine z_aload_n (pc := 72) X.1 hl 1 rfl rfl dX5_count_72 ?_
      refine z_get1 (pc := 73) X.1 hW rfl iX5_count_1 0 (by decide) rfl (by decide +kernel) dX5_count_73 ?_
      refine z_iload_n (pc := 76) X.1 hl 2 rfl rfl dX5_count_76 ?_
      obtain ⟨g4, h⟩ := z_guard h
      refine z_iald (pc := 77) X.1 hW rfl ⟨g4.1, g4.2⟩ dX5_count_77 ?_
      exact z_iret (pc := 78) X hW (Option.some.inj h) rfl dX5_count_78
    · rw [if_neg c5] at h
      by_cases c7 : a0 = 1
      · rw [if_pos c7] at h
        refine z_tin (pc := 24) (v := 1) (tgt := 72) X.1 dX5_count_24 c7 (by decide) (by decide) rfl (by decide) ?_
        refine z_aload_n (pc := 72) X.1 hl 1 rfl rfl dX5_count_72 ?_
        refine z_get1 (pc := 73) X.1 hW rfl iX5_count_1 0 (by decide) rfl (by decide +kernel) dX5_count_73 ?_
        refine z_iload_n (pc := 76) X.1 hl 2 rfl rfl dX5_count_76 ?_
        obtain ⟨g6, h⟩ := z_guard h
        refine z_iald (pc := 77) X.1 hW rfl ⟨g6.1, g6.2⟩ dX5_count_77 ?_
        exact z_iret (pc := 78) X hW (Option.some.inj h) rfl dX5_count_78
      · rw [if_neg c7] at h
        by_cases c9 : a0 = 2
        · rw [if_pos c9] at h
          refine z_tin (pc := 24) (v := 2) (tgt := 72) X.1 dX5_count_24 c9 (by decide) (by decide) rfl (by decide) ?_
          refine z_aload_n (pc := 72) X.1 hl 1 rfl rfl dX5_count_72 ?_
          refine z_get1 (pc := 73) X.1 hW rfl iX5_count_1 0 (by decide) rfl (by decide +kernel) dX5_count_73 ?_
          refine z_iload_n (pc := 76) X.1 hl 2 rfl rfl dX5_count_76 ?_
          obtain ⟨g8, h⟩ := z_guard h
          refine z_iald (pc := 77) X.1 hW rfl ⟨g8.1, g8.2⟩ dX5_count_77 ?_
          exact z_iret (pc := 78) X hW (Option.some.inj h) rfl dX5_count_78
        · rw [if_neg c9] at h
          by_cases c11 : a0 = 3
          · rw [if_pos c11] at h
            refine z_tin (pc := 24) (v := 3) (tgt := 72) X.1 dX5_count_24 c11 (by decide) (by decide) rfl (by decide) ?_
            refine z_aload_n (pc := 72) X.1 hl 1 rfl rfl dX5_count_72 ?_
            refine z_get1 (pc := 73) X.1 hW rfl iX5_count_1 0 (by decide) rfl (by decide +kernel) dX5_count_73 ?_
            refine z_iload_n (pc := 76) X.1 hl 2 rfl rfl dX5_count_76 ?_
            obtain ⟨g10, h⟩ := z_guard h
            refine z_iald (pc := 77) X.1 hW rfl ⟨g10.1, g10.2⟩ dX5_count_77 ?_
            exact z_iret (pc := 78) X hW (Option.some.inj h) rfl dX5_count_78
          · rw [if_neg c11] at h
            by_cases c13 : a0 = 4
            · rw [if_pos c13] at h
              refine z_tin (pc := 24) (v := 4) (tgt := 79) X.1 dX5_count_24 c13 (by decide) (by decide) rfl (by decide) ?_
              refine z_aload_n (pc := 79) X.1 hl 1 rfl rfl dX5_count_79 ?_
              refine z_get1 (pc := 80) X.1 hW rfl iX5_count_1 0 (by decide) rfl (by decide +kernel) dX5_count_80 ?_
              refine z_iconst (pc := 83) X.1 dX5_count_83 ?_
              obtain ⟨q12, eq12, h⟩ := z_bind h
              refine z_callSI (pc := 84) (n := 2) (As := [.ref (ad 1), .int (iO 2)]) (rest := []) X hW hl (C5_allOf l N 1 2 (by decide) μ0 eq12) gX5_count_X5_allOf rfl (by decide +kernel) rfl (by decide) rfl (Nat.le_of_ble_eq_true rfl) dX5_count_84 (fun H locs hW => ?_)
              exact z_iret (pc := 87) X hW (Option.some.inj h) rfl dX5_count_87
            · rw [if_neg c13] at h
              by_cases c20 : a0 = 5
              · rw [if_pos c20] at h
                refine z_tin (pc := 24) (v := 5) (tgt := 88) X.1 dX5_count_24 c20 (by decide) (by decide) rfl (by decide) ?_
                refine z_iconst (pc := 88) X.1 dX5_count_88 ?_
                refine z_istore_n (pc := 89) (i := 3) X.1 [(3, .int (iO 0)), (2, .int (iO 0)), (0, .ref (ad 0)), (1, .int (iO a0))] hl rfl rfl (by decide) rfl dX5_count_89 (fun ls hl => ?_)
                exact CL5_count_90 X N N 0 0 μ0 rfl h _ _ ls hW (lv_sub hl [2, 1, 0] rfl)
              · rw [if_neg c20] at h
                by_cases c21 : a0 = 6
                · rw [if_pos c21] at h
                  refine z_tin (pc := 24) (v := 6) (tgt := 129) X.1 dX5_count_24 c21 (by decide) (by decide) rfl (by decide) ?_
                  refine z_aload_n (pc := 129) X.1 hl 1 rfl rfl dX5_count_129 ?_
                  refine z_get1 (pc := 130) X.1 hW rfl iX5_count_1 9 (by decide) rfl (by decide +kernel) dX5_count_130 ?_
                  exact z_iret (pc := 133) X hW (Option.some.inj h) rfl dX5_count_133
                · rw [if_neg c21] at h
                  by_cases c22 : a0 = 7
                  · rw [if_pos c22] at h
                    refine z_tin (pc := 24) (v := 7) (tgt := 134) X.1 dX5_count_24 c22 (by decide) (by decide) rfl (by decide) ?_
                    refine z_aload_n (pc := 134) X.1 hl 1 rfl rfl dX5_count_134 ?_
                    refine z_get1 (pc := 135) X.1 hW rfl iX5_count_1 8 (by decide) rfl (by decide +kernel) dX5_count_135 ?_
                    exact z_iret (pc := 138) X hW (Option.some.inj h) rfl dX5_count_138
                  · rw [if_neg c22] at h
                    refine z_tout (pc := 24) (tgt := 139) X.1 dX5_count_24 g3 (by omega) (by decide) ?_
                    refine z_bipush (pc := 139) X.1 dX5_count_139 (by decide) ?_
                    exact z_iret (pc := 141) X hW (Option.some.inj h) rfl dX5_count_141
  · refine z_aload_n (pc := 11) X.1 hl 0 rfl rfl dX5_count_11 ?_
    refine z_get1 (pc := 12) X.1 hW rfl iX5_count_1 7 (by decide) rfl (by decide +kernel) dX5_count_12 ?_
    refine z_iload_n (pc := 15) X.1 hl 1 rfl rfl dX5_count_15 ?_
    refine z_bipush (pc := 16) X.1 dX5_count_16 (by decide) ?_
    refine z_isub (pc := 18) X.1 dX5_count_18 ?_
    obtain ⟨g23, h⟩ := z_guard h
    refine z_iald (pc := 19) X.1 hW rfl ⟨g23.1, g23.2⟩ dX5_count_19 ?_
    exact z_iret (pc := 20) X hW (Option.some.inj h) rfl dX5_count_20
