-- X4_days
theorem iX4_days_3 : ∀ w ∈ wsX10, w ∈ wsX4_days := by decide +kernel
theorem iX4_days_7 : ∀ w ∈ wsX40, w ∈ wsX4_days := by decide +kernel
section
variable {p : Program} {l : Launch} {e : Env} {s : State} {m : MethodId} {args : Array Value} {below : List Frame} {meth : Method} {c : Code} {D : va_G} {cy : ClassId × ClassId} {ad : Nat → Nat} {A : Nat → Prop} {res : (Int × mm)}
theorem CJ4_days_30 (X : zX p s m args meth c cX4_days RX4 wsX4_days 4 D cy ad (some .int) A) (N : Nat) : ∀ (x1 : Int) (x2 : Int) (μ : mm), J4_days_30 N x1 x2 μ = some res → ∀ (H : Heap) (locs : List Loc) (ls : Array Slot), zW D cy ad A s.heap μ H locs → lv_has ls 4 [(0, .ref (ad 9)), (1, .int (iO x1)), (2, .int (iO x2))] → W p l e (rmD 3) s m args below meth c H locs 0 0 (MQ below (zQi D cy ad A res.1 res.2) args s 0 0 A) (F0 m 30 ls []) := by
  intro x1 x2 μ h H locs ls hW hl
  rw [J4_days_30] at h
  refine z_iload_n (pc := 30) X.1 hl 2 rfl rfl dX4_days_30 ?_
  obtain ⟨g3, h⟩ := z_guard h
  refine z_if_eq (pc := 31) (tgt := 40) X.1 dX4_days_31 (by decide) g3 h (fun c8 h => ?_) (fun c8 h => ?_)
  · refine z_aload_n (pc := 40) X.1 hl 0 rfl rfl dX4_days_40 ?_
    refine z_get7 (pc := 41) X.1 hW rfl iX4_days_7 0 (by decide) rfl (by decide +kernel) dX4_days_41 ?_
    obtain ⟨q4, eq4, h⟩ := z_bind h
    refine z_callV3I (pc := 44) (n := 0) (As := []) (rest := []) X hW hl rfl (C1_allThrough l N 10 rfl μ eq4) gX4_days_X1_allThrough rfl (by decide +kernel) rfl (by decide) rfl (Nat.le_of_ble_eq_true rfl) dX4_days_44 (fun H locs hW => ?_)
    refine z_istore_n (pc := 47) (i := 3) X.1 [(3, .int (iO q4)), (0, .ref (ad 9)), (1, .int (iO x1)), (2, .int (iO x2))] hl rfl rfl (by decide) rfl dX4_days_47 (fun ls hl => ?_)
    refine z_aload_n (pc := 48) X.1 hl 1 rfl rfl dX4_days_48 ?_
    refine z_get7 (pc := 49) X.1 hW rfl iX4_days_7 0 (by decide) rfl (by decide +kernel) dX4_days_49 ?_
    refine z_iload_n (pc := 52) X.1 hl 2 rfl rfl dX4_days_52 ?_
    obtain ⟨q5, eq5, h⟩ := z_bind h
    refine z_callV3V (pc := 53) (n := 1) (As := [.int (iO x1)]) (rest := []) X hW hl rfl (C1_daysGoBy l N 10 x1 rfl μ eq5) gX4_days_X1_daysGoBy rfl (by decide +kernel) rfl (by decide) rfl (Nat.le_of_ble_eq_true rfl) dX4_days_53 (fun H locs hW => ?_)
    refine z_aload_n (pc := 56) X.1 hl 1 rfl rfl dX4_days_56 ?_
    refine z_get7 (pc := 57) X.1 hW rfl iX4_days_7 0 (by decide) rfl (by decide +kernel) dX4_days_57 ?_
    obtain ⟨q6, eq6, h⟩ := z_bind h
    refine z_callV3I (pc := 60) (n := 0) (As := []) (rest := []) X hW hl rfl (C1_allThrough l N 10 rfl q5 eq6) gX4_days_X1_allThrough rfl (by decide +kernel) rfl (by decide) rfl (Nat.le_of_ble_eq_true rfl) dX4_days_60 (fun H locs hW => ?_)
    refine z_iload_n (pc := 63) X.1 hl 0 rfl rfl dX4_days_63 ?_
    refine z_isub (pc := 64) X.1 dX4_days_64 ?_
    exact z_iret (pc := 65) X hW (z_p1 h) (z_p2 h) dX4_days_65
  · refine z_aload_n (pc := 34) X.1 hl 0 rfl rfl dX4_days_34 ?_
    refine z_iload_n (pc := 35) X.1 hl 2 rfl rfl dX4_days_35 ?_
    obtain ⟨q7, eq7, h⟩ := z_bind h
    refine z_callV7I (pc := 36) (n := 1) (As := [.int (iO x2)]) (rest := []) X hW hl rfl (C4_refused l N x2 μ eq7) gX4_days_X4_refused rfl (by decide +kernel) rfl (by decide) rfl (Nat.le_of_ble_eq_true rfl) dX4_days_36 (fun H locs hW => ?_)
    exact z_iret (pc := 39) X hW (z_p1 h) (z_p2 h) dX4_days_39
end
theorem C4_days (l : Launch) {D : va_G} {cy : ClassId × ClassId} {ad : Nat → Nat} (N : Nat) (a0 : Int) (μ : mm) {res : (Int × mm)} (h : M4_days N a0 μ = some res) : zI l yX4_days wsX4_days 3 D cy ad [.ref (ad 9), .int (iO a0)] μ res.1 res.2 := by
  refine zI.of RX4 rfl (by decide) rfl (Nat.le_of_ble_eq_true rfl) ?_
  intro p e s m args below meth c A X hW ls hl
  have hl : lv_has ls 4 [(0, .ref (ad 9)), (1, .int (iO a0))] := hl
  unfold M4_days at h
  refine z_iload_n (pc := 0) X.1 hl 1 rfl rfl dX4_days_0 ?_
  refine z_iconst (pc := 1) X.1 dX4_days_1 ?_
  refine z_bipush (pc := 2) X.1 dX4_days_2 (by decide) ?_
  obtain ⟨q1, eq1, h⟩ := z_bind h
  refine z_callSI (pc := 4) (n := 3) (As := [.int (iO a0), .int (iO 1), .int (iO 60)]) (rest := []) X hW hl (C4_outside l N a0 1 60 μ eq1) gX4_days_X4_outside rfl (by decide +kernel) rfl (by decide) rfl (Nat.le_of_ble_eq_true rfl) dX4_days_4 (fun H locs hW => ?_)
  refine z_istore_n (pc := 7) (i := 2) X.1 [(2, .int (iO q1)), (0, .ref (ad 9)), (1, .int (iO a0))] hl rfl rfl (by decide) rfl dX4_days_7 (fun ls hl => ?_)
  refine z_iload_n (pc := 8) X.1 hl 0 rfl rfl dX4_days_8 ?_
  obtain ⟨g2, h⟩ := z_guard h
  refine z_if_ne (pc := 9) (tgt := 30) X.1 dX4_days_9 (by decide) g2 h (fun c11 h => ?_) (fun c11 h => ?_)
  · exact CJ4_days_30 X N a0 q1 μ h _ _ ls hW (lv_sub hl [1, 2, 0] rfl)
  · refine z_aload_n (pc := 12) X.1 hl 1 rfl rfl dX4_days_12 ?_
    refine z_get7 (pc := 13) X.1 hW rfl iX4_days_7 0 (by decide) rfl (by decide +kernel) dX4_days_13 ?_
    refine z_get3 (pc := 16) X.1 hW rfl iX4_days_3 5 (by decide) rfl (by decide +kernel) dX4_days_16 ?_
    refine z_iload_n (pc := 19) X.1 hl 2 rfl rfl dX4_days_19 ?_
    refine z_iadd (pc := 20) X.1 dX4_days_20 ?_
    refine z_sipush (pc := 21) X.1 dX4_days_21 (by decide) ?_
    obtain ⟨g9, h⟩ := z_guard h
    refine z_icmp_le (pc := 24) (tgt := 30) X.1 dX4_days_24 (by decide) ⟨g9, (by decide)⟩ h (fun c10 h => ?_) (fun c10 h => ?_)
    · exact CJ4_days_30 X N a0 q1 μ h _ _ ls hW (lv_sub hl [1, 2, 0] rfl)
    · refine z_bipush (pc := 27) X.1 dX4_days_27 (by decide) ?_
      refine z_istore_n (pc := 29) (i := 2) X.1 [(2, .int (iO (-6))), (0, .ref (ad 9)), (1, .int (iO a0))] hl rfl rfl (by decide) rfl dX4_days_29 (fun ls hl => ?_)
      exact CJ4_days_30 X N a0 (-6) μ h _ _ ls hW (lv_sub hl [1, 2, 0] rfl)
-- X4_thought
theorem iX4_thought_5 : ∀ w ∈ wsX20, w ∈ wsX4_thought := by decide +kernel
theorem iX4_thought_7 : ∀ w ∈ wsX40, w ∈ wsX4_thought := by decide +kernel
section
variable {p : Program} {l : Launch} {e : Env} {s : State} {m : MethodId} {args : Array Value} {below : List Frame} {meth : Method} {c : Code} {D : va_G} {cy : ClassId × ClassId} {ad : Nat → Nat} {A : Nat → Prop} {res : (Nat × mm)}
theorem CL4_thought_26 (X : zX p s m args meth c cX4_thought RX4 wsX4_thought 5 D cy ad (some (.object "GritIsIssued$Person")) A) (N : Nat) : ∀ (k : Nat) (x3 : Int) (x4 : Int) (μ : mm), L4_thought_26 N k x3 x4 μ = some res → ∀ (H : Heap) (locs : List Loc) (ls : Array Slot), zW D cy ad A s.heap μ H locs → lv_has ls 5 [(0, .ref (ad 9)), (3, .int (iO x3)), (4, .int (iO x4))] → W p l e (rmD 2) s m args below meth c H locs 0 0 (MQ below (zQr D cy ad A res.1 res.2) args s 0 0 A) (F0 m 26 ls []) := by
  intro k
  induction k with
  | zero =>
    intro x3 x4 μ h H locs ls hW hl
    exact absurd h (by rw [L4_thought_26]; exact fun z => by cases z)
  | succ k ih =>
    intro x3 x4 μ h H locs ls hW hl
    rw [L4_thought_26] at h
    refine z_iload (pc := 26) X.1 hl 2 rfl dX4_thought_26 ?_
    refine z_iload_n (pc := 28) X.1 hl 1 rfl rfl dX4_thought_28 ?_
    obtain ⟨g5, h⟩ := z_guard h
    refine z_icmp_ge (pc := 29) (tgt := 46) X.1 dX4_thought_29 (by decide) ⟨g5.1, g5.2⟩ h (fun c7 h => ?_) (fun c7 h => ?_)
    · refine z_aload_n (pc := 46) X.1 hl 0 rfl rfl dX4_thought_46 ?_
      refine z_get7 (pc := 47) X.1 hW rfl iX4_thought_7 3 (by decide) rfl (by decide +kernel) dX4_thought_47 ?_
      exact z_aret (pc := 50) X hW (z_p1 h) (z_p2 h) dX4_thought_50
    · refine z_aload_n (pc := 32) X.1 hl 0 rfl rfl dX4_thought_32 ?_
      refine z_get7 (pc := 33) X.1 hW rfl iX4_thought_7 3 (by decide) rfl (by decide +kernel) dX4_thought_33 ?_
      obtain ⟨q6, eq6, h⟩ := z_bind h
      refine z_callV5I (pc := 36) (n := 0) (As := []) (rest := []) X hW hl rfl (C2_oneDay l N 43 rfl μ eq6) gX4_thought_X2_oneDay rfl (by decide +kernel) rfl (by decide) rfl (Nat.le_of_ble_eq_true rfl) dX4_thought_36 (fun H locs hW => ?_)
      refine z_pop (pc := 39) X.1 dX4_thought_39 rfl ?_
      refine z_iinc (pc := 40) (i := 4) X.1 [(4, .int (iO (x4 + 1))), (0, .ref (ad 9)), (3, .int (iO x3))] hl 2 rfl rfl (by decide) rfl dX4_thought_40 (fun ls hl => ?_)
      refine z_goto (pc := 43) (tgt := 26) X.1 dX4_thought_43 (by decide) ?_
      exact ih x3 (x4 + 1) q6.2 h _ _ ls hW (lv_sub hl [1, 2, 0] rfl)
end
theorem C4_thought (l : Launch) {D : va_G} {cy : ClassId × ClassId} {ad : Nat → Nat} (N : Nat) (a0 : Int) (a1 : Int) (a2 : Int) (μ : mm) {res : (Nat × mm)} (h : M4_thought N a0 a1 a2 μ = some res) : zR l yX4_thought wsX4_thought 2 D cy ad [.ref (ad 9), .int (iO a0), .int (iO a1), .int (iO a2)] μ res.1 res.2 := by
  refine zR.of RX4 rfl (by decide) rfl (Nat.le_of_ble_eq_true rfl) ?_
  intro p e s m args below meth c A X hW ls hl
  have hl : lv_has ls 5 [(0, .ref (ad 9)), (1, .int (iO a0)), (2, .int (iO a1)), (3, .int (iO a2))] := hl
  unfold M4_thought at h
  refine z_aload_n (pc := 0) X.1 hl 0 rfl rfl dX4_thought_0 ?_
  refine z_get7 (pc := 1) X.1 hW rfl iX4_thought_7 3 (by decide) rfl (by decide +kernel) dX4_thought_1 ?_
  refine z_aload_n (pc := 4) X.1 hl 0 rfl rfl dX4_thought_4 ?_
  refine z_get7 (pc := 5) X.1 hW rfl iX4_thought_7 0 (by decide) rfl (by decide +kernel) dX4_thought_5 ?_
  refine z_iload_n (pc := 8) X.1 hl 1 rfl rfl dX4_thought_8 ?_
  obtain ⟨q1, eq1, h⟩ := z_bind h
  obtain ⟨g2, h⟩ := z_guard h
  refine z_callV3R (pc := 9) (n := 1) (As := [.int (iO a0)]) (rest := [.ref (ad 43)]) X hW hl rfl (C1_at l N 10 a0 rfl μ eq1) gX4_thought_X1_at rfl (by decide +kernel) rfl (by decide) rfl (Nat.le_of_ble_eq_true rfl) dX4_thought_9 (fun H locs hW => ?_)
  obtain ⟨q3, eq3, h⟩ := z_bind h
  refine z_callV5V (pc := 12) (n := 1) (As := [.ref (ad q1)]) (rest := []) X hW hl rfl (C2_takeFrom l N 43 q1 rfl g2 μ eq3) gX4_thought_X2_takeFrom rfl (by decide +kernel) rfl (by decide) rfl (Nat.le_of_ble_eq_true rfl) dX4_thought_12 (fun H locs hW => ?_)
  refine z_aload_n (pc := 15) X.1 hl 0 rfl rfl dX4_thought_15 ?_
  refine z_get7 (pc := 16) X.1 hW rfl iX4_thought_7 3 (by decide) rfl (by decide +kernel) dX4_thought_16 ?_
  refine z_iload_n (pc := 19) X.1 hl 2 rfl rfl dX4_thought_19 ?_
  obtain ⟨μ4, eμ4, h⟩ := z_bnd h
  refine z_put5_2 (pc := 20) X.1 hW rfl iX4_thought_5 (by decide +kernel) dX4_thought_20 (fun H locs hW => ?_)
  rw [← eμ4] at hW
  refine z_iconst (pc := 23) X.1 dX4_thought_23 ?_
  refine z_istore (pc := 24) (i := 4) X.1 [(4, .int (iO 0)), (0, .ref (ad 9)), (1, .int (iO a0)), (2, .int (iO a1)), (3, .int (iO a2))] hl rfl (by decide) rfl dX4_thought_24 (fun ls hl => ?_)
  exact CL4_thought_26 X N N a2 0 μ4 h _ _ ls hW (lv_sub hl [1, 4, 0] rfl)
-- X4_personThen
theorem iX4_personThen_5 : ∀ w ∈ wsX20, w ∈ wsX4_personThen := by decide +kernel
theorem iX4_personThen_7 : ∀ w ∈ wsX40, w ∈ wsX4_personThen := by decide +kernel
theorem C4_personThen (l : Launch) {D : va_G} {cy : ClassId × ClassId} {ad : Nat → Nat} (N : Nat) (a0 : Int) (a1 : Int) (a2 : Int) (μ : mm) {res : (Int × mm)} (h : M4_personThen N a0 a1 a2 μ = some res) : zI l yX4_personThen wsX4_personThen 3 D cy ad [.ref (ad 9), .int (iO a0), .int (iO a1), .int (iO a2)] μ res.1 res.2 := by
  refine zI.of RX4 rfl (by decide) rfl (Nat.le_of_ble_eq_true rfl) ?_
  intro p e s m args below meth c A X hW ls hl
  have hl : lv_has ls 7 [(0, .ref (ad 9)), (1, .int (iO a0)), (2, .int (iO a1)), (3, .int (iO a2))] := hl
  unfold M4_personThen at h
  refine z_aload_n (pc := 0) X.1 hl 0 rfl rfl dX4_personThen_0 ?_
  refine z_iload_n (pc := 1) X.1 hl 1 rfl rfl dX4_personThen_1 ?_
  obtain ⟨q1, eq1, h⟩ := z_bind h
  refine z_callV7I (pc := 2) (n := 1) (As := [.int (iO a0)]) (rest := []) X hW hl rfl (C4_unknown l N a0 μ eq1) gX4_personThen_X4_unknown rfl (by decide +kernel) rfl (by decide) rfl (Nat.le_of_ble_eq_true rfl) dX4_personThen_2 (fun H locs hW => ?_)
  refine z_iload_n (pc := 5) X.1 hl 2 rfl rfl dX4_personThen_5 ?_
  refine z_iconst (pc := 6) X.1 dX4_personThen_6 ?_
  refine z_bipush (pc := 7) X.1 dX4_personThen_7 (by decide) ?_
  obtain ⟨q2, eq2, h⟩ := z_bind h
  refine z_callSI (pc := 9) (n := 3) (As := [.int (iO a1), .int (iO 0), .int (iO 99)]) (rest := [.int (iO q1)]) X hW hl (C4_outside l N a1 0 99 μ eq2) gX4_personThen_X4_outside rfl (by decide +kernel) rfl (by decide) rfl (Nat.le_of_ble_eq_true rfl) dX4_personThen_9 (fun H locs hW => ?_)
  refine z_iload_n (pc := 12) X.1 hl 3 rfl rfl dX4_personThen_12 ?_
  refine z_iconst (pc := 13) X.1 dX4_personThen_13 ?_
  obtain ⟨q3, eq3, h⟩ := z_bind h
  refine z_callSI (pc := 14) (n := 2) (As := [.int (iO a2), .int (iO 4)]) (rest := [.int (iO q2), .int (iO q1)]) X hW hl (C4_other l N a2 4 μ eq3) gX4_personThen_X4_other rfl (by decide +kernel) rfl (by decide) rfl (Nat.le_of_ble_eq_true rfl) dX4_personThen_14 (fun H locs hW => ?_)
  obtain ⟨q4, eq4, h⟩ := z_bind h
  refine z_callSI (pc := 17) (n := 3) (As := [.int (iO q1), .int (iO q2), .int (iO q3)]) (rest := []) X hW hl (C4_firstOf l N q1 q2 q3 μ eq4) gX4_personThen_X4_firstOf rfl (by decide +kernel) rfl (by decide) rfl (Nat.le_of_ble_eq_true rfl) dX4_personThen_17 (fun H locs hW => ?_)
  refine z_istore (pc := 20) (i := 4) X.1 [(4, .int (iO q4)), (0, .ref (ad 9)), (1, .int (iO a0)), (2, .int (iO a1)), (3, .int (iO a2))] hl rfl (by decide) rfl dX4_personThen_20 (fun ls hl => ?_)
  refine z_iload (pc := 22) X.1 hl 0 rfl dX4_personThen_22 ?_
  obtain ⟨g5, h⟩ := z_guard h
  refine z_if_eq (pc := 24) (tgt := 34) X.1 dX4_personThen_24 (by decide) g5 h (fun c18 h => ?_) (fun c18 h => ?_)
  · refine z_aload_n (pc := 34) X.1 hl 1 rfl rfl dX4_personThen_34 ?_
    refine z_get7 (pc := 35) X.1 hW rfl iX4_personThen_7 0 (by decide) rfl (by decide +kernel) dX4_personThen_35 ?_
    refine z_iload_n (pc := 38) X.1 hl 2 rfl rfl dX4_personThen_38 ?_
    obtain ⟨q6, eq6, h⟩ := z_bind h
    obtain ⟨g7, h⟩ := z_guard h
    refine z_callV3R (pc := 39) (n := 1) (As := [.int (iO a0)]) (rest := []) X hW hl rfl (C1_at l N 10 a0 rfl μ eq6) gX4_personThen_X1_at rfl (by decide +kernel) rfl (by decide) rfl (Nat.le_of_ble_eq_true rfl) dX4_personThen_39 (fun H locs hW => ?_)
    refine z_astore (pc := 42) (i := 5) X.1 [(5, .ref (ad q6)), (4, .int (iO q4)), (0, .ref (ad 9)), (1, .int (iO a0)), (2, .int (iO a1)), (3, .int (iO a2))] hl rfl (by decide) rfl dX4_personThen_42 (fun ls hl => ?_)
    refine z_aload_n (pc := 44) X.1 hl 2 rfl rfl dX4_personThen_44 ?_
    refine z_iload_n (pc := 45) X.1 hl 3 rfl rfl dX4_personThen_45 ?_
    refine z_aload (pc := 46) X.1 hl 0 rfl dX4_personThen_46 ?_
    refine z_get5 (pc := 48) X.1 hW g7 iX4_personThen_5 2 (by decide) rfl (by decide +kernel) dX4_personThen_48 ?_
    refine z_iload_n (pc := 51) X.1 hl 4 rfl rfl dX4_personThen_51 ?_
    obtain ⟨q8, eq8, h⟩ := z_bind h
    obtain ⟨g9, h⟩ := z_guard h
    refine z_callV7R (pc := 52) (n := 3) (As := [.int (iO a0), .int (iO (μ q6 2)), .int (iO a1)]) (rest := []) X hW hl rfl (C4_thought l N a0 (μ q6 2) a1 μ eq8) gX4_personThen_X4_thought rfl (by decide +kernel) rfl (by decide) rfl (Nat.le_of_ble_eq_true rfl) dX4_personThen_52 (fun H locs hW => ?_)
    refine z_astore (pc := 55) (i := 6) X.1 [(6, .ref (ad q8.1)), (5, .ref (ad q6)), (4, .int (iO q4)), (0, .ref (ad 9)), (1, .int (iO a0)), (2, .int (iO a1)), (3, .int (iO a2))] hl rfl (by decide) rfl dX4_personThen_55 (fun ls hl => ?_)
    refine z_iload_n (pc := 57) X.1 hl 6 rfl rfl dX4_personThen_57 ?_
    obtain ⟨g10, h⟩ := z_guard h
    by_cases c11 : a2 = 0
    · rw [if_pos c11] at h
      refine z_tin (pc := 58) (v := 0) (tgt := 88) X.1 dX4_personThen_58 c11 (by decide) (by decide) rfl (by decide) ?_
      refine z_aload (pc := 88) X.1 hl 0 rfl dX4_personThen_88 ?_
      refine z_get5 (pc := 90) X.1 hW g9 iX4_personThen_5 2 (by decide) rfl (by decide +kernel) dX4_personThen_90 ?_
      exact z_iret (pc := 93) X hW (z_p1 h) (z_p2 h) dX4_personThen_93
    · rw [if_neg c11] at h
      by_cases c12 : a2 = 1
      · rw [if_pos c12] at h
        refine z_tin (pc := 58) (v := 1) (tgt := 94) X.1 dX4_personThen_58 c12 (by decide) (by decide) rfl (by decide) ?_
        refine z_aload (pc := 94) X.1 hl 0 rfl dX4_personThen_94 ?_
        refine z_get5 (pc := 96) X.1 hW g9 iX4_personThen_5 3 (by decide) rfl (by decide +kernel) dX4_personThen_96 ?_
        exact z_iret (pc := 99) X hW (z_p1 h) (z_p2 h) dX4_personThen_99
      · rw [if_neg c12] at h
        by_cases c13 : a2 = 2
        · rw [if_pos c13] at h
          refine z_tin (pc := 58) (v := 2) (tgt := 100) X.1 dX4_personThen_58 c13 (by decide) (by decide) rfl (by decide) ?_
          refine z_aload (pc := 100) X.1 hl 0 rfl dX4_personThen_100 ?_
          refine z_get5 (pc := 102) X.1 hW g9 iX4_personThen_5 4 (by decide) rfl (by decide +kernel) dX4_personThen_102 ?_
          exact z_iret (pc := 105) X hW (z_p1 h) (z_p2 h) dX4_personThen_105
        · rw [if_neg c13] at h
          by_cases c14 : a2 = 3
          · rw [if_pos c14] at h
            refine z_tin (pc := 58) (v := 3) (tgt := 106) X.1 dX4_personThen_58 c14 (by decide) (by decide) rfl (by decide) ?_
            refine z_aload (pc := 106) X.1 hl 0 rfl dX4_personThen_106 ?_
            refine z_get5 (pc := 108) X.1 hW g9 iX4_personThen_5 5 (by decide) rfl (by decide +kernel) dX4_personThen_108 ?_
            exact z_iret (pc := 111) X hW (z_p1 h) (z_p2 h) dX4_personThen_111
          · rw [if_neg c14] at h
            refine z_tout (pc := 58) (tgt := 112) X.1 dX4_personThen_58 g10 (by omega) (by decide) ?_
            refine z_aload (pc := 112) X.1 hl 0 rfl dX4_personThen_112 ?_
            refine z_get5 (pc := 114) X.1 hW g9 iX4_personThen_5 5 (by decide) rfl (by decide +kernel) dX4_personThen_114 ?_
            refine z_aload (pc := 117) X.1 hl 1 rfl dX4_personThen_117 ?_
            refine z_get5 (pc := 119) X.1 hW g7 iX4_personThen_5 5 (by decide) rfl (by decide +kernel) dX4_personThen_119 ?_
            obtain ⟨g15, h⟩ := z_guard h
            refine z_icmp_le (pc := 122) (tgt := 129) X.1 dX4_personThen_122 (by decide) ⟨g15.1, g15.2⟩ h (fun c16 h => ?_) (fun c16 h => ?_)
            · refine z_iconst (pc := 129) X.1 dX4_personThen_129 ?_
              exact z_iret (pc := 130) X hW (z_p1 h) (z_p2 h) dX4_personThen_130
            · refine z_iconst (pc := 125) X.1 dX4_personThen_125 ?_
              refine z_goto (pc := 126) (tgt := 130) X.1 dX4_personThen_126 (by decide) ?_
              exact z_iret (pc := 130) X hW (z_p1 h) (z_p2 h) dX4_personThen_130
  · refine z_aload_n (pc := 27) X.1 hl 1 rfl rfl dX4_personThen_27 ?_
    refine z_iload (pc := 28) X.1 hl 0 rfl dX4_personThen_28 ?_
    obtain ⟨q17, eq17, h⟩ := z_bind h
    refine z_callV7I (pc := 30) (n := 1) (As := [.int (iO q4)]) (rest := []) X hW hl rfl (C4_refused l N q4 μ eq17) gX4_personThen_X4_refused rfl (by decide +kernel) rfl (by decide) rfl (Nat.le_of_ble_eq_true rfl) dX4_personThen_30 (fun H locs hW => ?_)
    exact z_iret (pc := 33) X hW (z_p1 h) (z_p2 h) dX4_personThen_33
-- X4_allThen
theorem iX4_allThen_3 : ∀ w ∈ wsX10, w ∈ wsX4_allThen := by decide +kernel
theorem iX4_allThen_7 : ∀ w ∈ wsX40, w ∈ wsX4_allThen := by decide +kernel
theorem C4_allThen (l : Launch) {D : va_G} {cy : ClassId × ClassId} {ad : Nat → Nat} (N : Nat) (a0 : Int) (a1 : Int) (μ : mm) {res : (Int × mm)} (h : M4_allThen N a0 a1 μ = some res) : zI l yX4_allThen wsX4_allThen 3 D cy ad [.ref (ad 9), .int (iO a0), .int (iO a1)] μ res.1 res.2 := by
  refine zI.of RX4 rfl (by decide) rfl (Nat.le_of_ble_eq_true rfl) ?_
  intro p e s m args below meth c A X hW ls hl
  have hl : lv_has ls 4 [(0, .ref (ad 9)), (1, .int (iO a0)), (2, .int (iO a1))] := hl
  unfold M4_allThen at h
  refine z_iload_n (pc := 0) X.1 hl 1 rfl rfl dX4_allThen_0 ?_
  refine z_iconst (pc := 1) X.1 dX4_allThen_1 ?_
  refine z_bipush (pc := 2) X.1 dX4_allThen_2 (by decide) ?_
  obtain ⟨q1, eq1, h⟩ := z_bind h
  refine z_callSI (pc := 4) (n := 3) (As := [.int (iO a0), .int (iO 0), .int (iO 99)]) (rest := []) X hW hl (C4_outside l N a0 0 99 μ eq1) gX4_allThen_X4_outside rfl (by decide +kernel) rfl (by decide) rfl (Nat.le_of_ble_eq_true rfl) dX4_allThen_4 (fun H locs hW => ?_)
  refine z_iload_n (pc := 7) X.1 hl 2 rfl rfl dX4_allThen_7 ?_
  refine z_iconst (pc := 8) X.1 dX4_allThen_8 ?_
  obtain ⟨q2, eq2, h⟩ := z_bind h
  refine z_callSI (pc := 9) (n := 2) (As := [.int (iO a1), .int (iO 2)]) (rest := [.int (iO q1)]) X hW hl (C4_other l N a1 2 μ eq2) gX4_allThen_X4_other rfl (by decide +kernel) rfl (by decide) rfl (Nat.le_of_ble_eq_true rfl) dX4_allThen_9 (fun H locs hW => ?_)
  refine z_iconst (pc := 12) X.1 dX4_allThen_12 ?_
  obtain ⟨q3, eq3, h⟩ := z_bind h
  refine z_callSI (pc := 13) (n := 3) (As := [.int (iO q1), .int (iO q2), .int (iO 0)]) (rest := []) X hW hl (C4_firstOf l N q1 q2 0 μ eq3) gX4_allThen_X4_firstOf rfl (by decide +kernel) rfl (by decide) rfl (Nat.le_of_ble_eq_true rfl) dX4_allThen_13 (fun H locs hW => ?_)
  refine z_istore_n (pc := 16) (i := 3) X.1 [(3, .int (iO q3)), (0, .ref (ad 9)), (1, .int (iO a0)), (2, .int (iO a1))] hl rfl rfl (by decide) rfl dX4_allThen_16 (fun ls hl => ?_)
  refine z_iload_n (pc := 17) X.1 hl 0 rfl rfl dX4_allThen_17 ?_
  obtain ⟨g4, h⟩ := z_guard h
  refine z_if_eq (pc := 18) (tgt := 27) X.1 dX4_allThen_18 (by decide) g4 h (fun c14 h => ?_) (fun c14 h => ?_)
  · refine z_aload_n (pc := 27) X.1 hl 1 rfl rfl dX4_allThen_27 ?_
    refine z_get7 (pc := 28) X.1 hW rfl iX4_allThen_7 1 (by decide) rfl (by decide +kernel) dX4_allThen_28 ?_
    refine z_aload_n (pc := 31) X.1 hl 1 rfl rfl dX4_allThen_31 ?_
    refine z_get7 (pc := 32) X.1 hW rfl iX4_allThen_7 0 (by decide) rfl (by decide +kernel) dX4_allThen_32 ?_
    obtain ⟨q5, eq5, h⟩ := z_bind h
    refine z_callV3V (pc := 35) (n := 1) (As := [.ref (ad 10)]) (rest := []) X hW hl rfl (C1_takeFrom l N 21 10 rfl rfl μ eq5) gX4_allThen_X1_takeFrom rfl (by decide +kernel) rfl (by decide) rfl (Nat.le_of_ble_eq_true rfl) dX4_allThen_35 (fun H locs hW => ?_)
    refine z_aload_n (pc := 38) X.1 hl 1 rfl rfl dX4_allThen_38 ?_
    refine z_get7 (pc := 39) X.1 hW rfl iX4_allThen_7 1 (by decide) rfl (by decide +kernel) dX4_allThen_39 ?_
    refine z_iload_n (pc := 42) X.1 hl 2 rfl rfl dX4_allThen_42 ?_
    obtain ⟨q6, eq6, h⟩ := z_bind h
    refine z_callV3V (pc := 43) (n := 1) (As := [.int (iO a0)]) (rest := []) X hW hl rfl (C1_daysGoBy l N 21 a0 rfl q5 eq6) gX4_allThen_X1_daysGoBy rfl (by decide +kernel) rfl (by decide) rfl (Nat.le_of_ble_eq_true rfl) dX4_allThen_43 (fun H locs hW => ?_)
    refine z_iload_n (pc := 46) X.1 hl 3 rfl rfl dX4_allThen_46 ?_
    obtain ⟨g7, h⟩ := z_guard h
    refine z_if_ne (pc := 47) (tgt := 58) X.1 dX4_allThen_47 (by decide) g7 h (fun c12 h => ?_) (fun c12 h => ?_)
    · refine z_iload_n (pc := 58) X.1 hl 3 rfl rfl dX4_allThen_58 ?_
      refine z_iconst (pc := 59) X.1 dX4_allThen_59 ?_
      obtain ⟨g8, h⟩ := z_guard h
      refine z_icmp_ne (pc := 60) (tgt := 73) X.1 dX4_allThen_60 (by decide) ⟨g8, (by decide)⟩ h (fun c10 h => ?_) (fun c10 h => ?_)
      · refine z_aload_n (pc := 73) X.1 hl 1 rfl rfl dX4_allThen_73 ?_
        refine z_get7 (pc := 74) X.1 hW rfl iX4_allThen_7 1 (by decide) rfl (by decide +kernel) dX4_allThen_74 ?_
        refine z_get3 (pc := 77) X.1 hW rfl iX4_allThen_3 4 (by decide) rfl (by decide +kernel) dX4_allThen_77 ?_
        exact z_iret (pc := 80) X hW (z_p1 h) (z_p2 h) dX4_allThen_80
      · refine z_aload_n (pc := 63) X.1 hl 1 rfl rfl dX4_allThen_63 ?_
        refine z_get7 (pc := 64) X.1 hW rfl iX4_allThen_7 1 (by decide) rfl (by decide +kernel) dX4_allThen_64 ?_
        obtain ⟨q9, eq9, h⟩ := z_bind h
        refine z_callV3I (pc := 67) (n := 0) (As := []) (rest := []) X hW hl rfl (C1_allShort l N 21 rfl q6 eq9) gX4_allThen_X1_allShort rfl (by decide +kernel) rfl (by decide) rfl (Nat.le_of_ble_eq_true rfl) dX4_allThen_67 (fun H locs hW => ?_)
        refine z_goto (pc := 70) (tgt := 80) X.1 dX4_allThen_70 (by decide) ?_
        exact z_iret (pc := 80) X hW (z_p1 h) (z_p2 h) dX4_allThen_80
    · refine z_aload_n (pc := 50) X.1 hl 1 rfl rfl dX4_allThen_50 ?_
      refine z_get7 (pc := 51) X.1 hW rfl iX4_allThen_7 1 (by decide) rfl (by decide +kernel) dX4_allThen_51 ?_
      obtain ⟨q11, eq11, h⟩ := z_bind h
      refine z_callV3I (pc := 54) (n := 0) (As := []) (rest := []) X hW hl rfl (C1_allThrough l N 21 rfl q6 eq11) gX4_allThen_X1_allThrough rfl (by decide +kernel) rfl (by decide) rfl (Nat.le_of_ble_eq_true rfl) dX4_allThen_54 (fun H locs hW => ?_)
      exact z_iret (pc := 57) X hW (z_p1 h) (z_p2 h) dX4_allThen_57
  · refine z_aload_n (pc := 21) X.1 hl 1 rfl rfl dX4_allThen_21 ?_
    refine z_iload_n (pc := 22) X.1 hl 0 rfl rfl dX4_allThen_22 ?_
    obtain ⟨q13, eq13, h⟩ := z_bind h
    refine z_callV7I (pc := 23) (n := 1) (As := [.int (iO q3)]) (rest := []) X hW hl rfl (C4_refused l N q3 μ eq13) gX4_allThen_X4_refused rfl (by decide +kernel) rfl (by decide) rfl (Nat.le_of_ble_eq_true rfl) dX4_allThen_23 (fun H locs hW => ?_)
    exact z_iret (pc := 26) X hW (z_p1 h) (z_p2 h) dX4_allThen_26
-- X4_first
theorem iX4_first_7 : ∀ w ∈ wsX40, w ∈ wsX4_first := by decide +kernel
section
variable {p : Program} {l : Launch} {e : Env} {s : State} {m : MethodId} {args : Array Value} {below : List Frame} {meth : Method} {c : Code} {D : va_G} {cy : ClassId × ClassId} {ad : Nat → Nat} {A : Nat → Prop} {res : (Int × mm)}
theorem CL4_first_29 (X : zX p s m args meth c cX4_first RX4 wsX4_first 5 D cy ad (some .int) A) (N : Nat) : ∀ (k : Nat) (x1 : Int) (x3 : Int) (μ : mm), L4_first_29 N k x1 x3 μ = some res → ∀ (H : Heap) (locs : List Loc) (ls : Array Slot), zW D cy ad A s.heap μ H locs → lv_has ls 5 [(0, .ref (ad 9)), (1, .int (iO x1)), (3, .int (iO x3))] → W p l e (rmD 3) s m args below meth c H locs 0 0 (MQ below (zQi D cy ad A res.1 res.2) args s 0 0 A) (F0 m 29 ls []) := by
  intro k
  induction k with
  | zero =>
    intro x1 x3 μ h H locs ls hW hl
    exact absurd h (by rw [L4_first_29]; exact fun z => by cases z)
  | succ k ih =>
    intro x1 x3 μ h H locs ls hW hl
    rw [L4_first_29] at h
    refine z_iload_n (pc := 29) X.1 hl 2 rfl rfl dX4_first_29 ?_
    refine z_bipush (pc := 30) X.1 dX4_first_30 (by decide) ?_
    obtain ⟨g4, h⟩ := z_guard h
    refine z_icmp_gt (pc := 32) (tgt := 74) X.1 dX4_first_32 (by decide) ⟨g4, (by decide)⟩ h (fun c11 h => ?_) (fun c11 h => ?_)
    · refine z_bipush (pc := 74) X.1 dX4_first_74 (by decide) ?_
      exact z_iret (pc := 76) X hW (z_p1 h) (z_p2 h) dX4_first_76
    · refine z_aload_n (pc := 35) X.1 hl 0 rfl rfl dX4_first_35 ?_
      refine z_get7 (pc := 36) X.1 hW rfl iX4_first_7 1 (by decide) rfl (by decide +kernel) dX4_first_36 ?_
      refine z_iconst (pc := 39) X.1 dX4_first_39 ?_
      obtain ⟨q5, eq5, h⟩ := z_bind h
      refine z_callV3V (pc := 40) (n := 1) (As := [.int (iO 1)]) (rest := []) X hW hl rfl (C1_daysGoBy l N 21 1 rfl μ eq5) gX4_first_X1_daysGoBy rfl (by decide +kernel) rfl (by decide) rfl (Nat.le_of_ble_eq_true rfl) dX4_first_40 (fun H locs hW => ?_)
      refine z_aload_n (pc := 43) X.1 hl 0 rfl rfl dX4_first_43 ?_
      refine z_get7 (pc := 44) X.1 hW rfl iX4_first_7 1 (by decide) rfl (by decide +kernel) dX4_first_44 ?_
      obtain ⟨q6, eq6, h⟩ := z_bind h
      refine z_callV3I (pc := 47) (n := 0) (As := []) (rest := []) X hW hl rfl (C1_firstMissing l N 21 rfl q5 eq6) gX4_first_X1_firstMissing rfl (by decide +kernel) rfl (by decide) rfl (Nat.le_of_ble_eq_true rfl) dX4_first_47 (fun H locs hW => ?_)
      refine z_istore (pc := 50) (i := 4) X.1 [(4, .int (iO q6)), (0, .ref (ad 9)), (1, .int (iO x1)), (3, .int (iO x3))] hl rfl (by decide) rfl dX4_first_50 (fun ls hl => ?_)
      refine z_iload (pc := 52) X.1 hl 0 rfl dX4_first_52 ?_
      obtain ⟨g7, h⟩ := z_guard h
      refine z_if_lt (pc := 54) (tgt := 68) X.1 dX4_first_54 (by decide) g7 h (fun c10 h => ?_) (fun c10 h => ?_)
      · refine z_iinc (pc := 68) (i := 3) X.1 [(3, .int (iO (x3 + 1))), (4, .int (iO q6)), (0, .ref (ad 9)), (1, .int (iO x1))] hl 3 rfl rfl (by decide) rfl dX4_first_68 (fun ls hl => ?_)
        refine z_goto (pc := 71) (tgt := 29) X.1 dX4_first_71 (by decide) ?_
        exact ih x1 (x3 + 1) q5 h _ _ ls hW (lv_sub hl [2, 3, 0] rfl)
      · refine z_iload_n (pc := 57) X.1 hl 2 rfl rfl dX4_first_57 ?_
        obtain ⟨g8, h⟩ := z_guard h
        refine z_if_ne (pc := 58) (tgt := 66) X.1 dX4_first_58 (by decide) g8 h (fun c9 h => ?_) (fun c9 h => ?_)
        · refine z_iload_n (pc := 66) X.1 hl 3 rfl rfl dX4_first_66 ?_
          exact z_iret (pc := 67) X hW (z_p1 h) (z_p2 h) dX4_first_67
        · refine z_iload (pc := 61) X.1 hl 0 rfl dX4_first_61 ?_
          refine z_goto (pc := 63) (tgt := 67) X.1 dX4_first_63 (by decide) ?_
          exact z_iret (pc := 67) X hW (z_p1 h) (z_p2 h) dX4_first_67
end
theorem C4_first (l : Launch) {D : va_G} {cy : ClassId × ClassId} {ad : Nat → Nat} (N : Nat) (a0 : Int) (μ : mm) {res : (Int × mm)} (h : M4_first N a0 μ = some res) : zI l yX4_first wsX4_first 3 D cy ad [.ref (ad 9), .int (iO a0)] μ res.1 res.2 := by
  refine zI.of RX4 rfl (by decide) rfl (Nat.le_of_ble_eq_true rfl) ?_
  intro p e s m args below meth c A X hW ls hl
  have hl : lv_has ls 5 [(0, .ref (ad 9)), (1, .int (iO a0))] := hl
  unfold M4_first at h
  refine z_iload_n (pc := 0) X.1 hl 1 rfl rfl dX4_first_0 ?_
  refine z_iconst (pc := 1) X.1 dX4_first_1 ?_
  obtain ⟨q1, eq1, h⟩ := z_bind h
  refine z_callSI (pc := 2) (n := 2) (As := [.int (iO a0), .int (iO 1)]) (rest := []) X hW hl (C4_other l N a0 1 μ eq1) gX4_first_X4_other rfl (by decide +kernel) rfl (by decide) rfl (Nat.le_of_ble_eq_true rfl) dX4_first_2 (fun H locs hW => ?_)
  refine z_istore_n (pc := 5) (i := 2) X.1 [(2, .int (iO q1)), (0, .ref (ad 9)), (1, .int (iO a0))] hl rfl rfl (by decide) rfl dX4_first_5 (fun ls hl => ?_)
  refine z_iload_n (pc := 6) X.1 hl 0 rfl rfl dX4_first_6 ?_
  obtain ⟨g2, h⟩ := z_guard h
  refine z_if_eq (pc := 7) (tgt := 16) X.1 dX4_first_7 (by decide) g2 h (fun c13 h => ?_) (fun c13 h => ?_)
  · refine z_aload_n (pc := 16) X.1 hl 1 rfl rfl dX4_first_16 ?_
    refine z_get7 (pc := 17) X.1 hW rfl iX4_first_7 1 (by decide) rfl (by decide +kernel) dX4_first_17 ?_
    refine z_aload_n (pc := 20) X.1 hl 1 rfl rfl dX4_first_20 ?_
    refine z_get7 (pc := 21) X.1 hW rfl iX4_first_7 0 (by decide) rfl (by decide +kernel) dX4_first_21 ?_
    obtain ⟨q3, eq3, h⟩ := z_bind h
    refine z_callV3V (pc := 24) (n := 1) (As := [.ref (ad 10)]) (rest := []) X hW hl rfl (C1_takeFrom l N 21 10 rfl rfl μ eq3) gX4_first_X1_takeFrom rfl (by decide +kernel) rfl (by decide) rfl (Nat.le_of_ble_eq_true rfl) dX4_first_24 (fun H locs hW => ?_)
    refine z_iconst (pc := 27) X.1 dX4_first_27 ?_
    refine z_istore_n (pc := 28) (i := 3) X.1 [(3, .int (iO 1)), (2, .int (iO q1)), (0, .ref (ad 9)), (1, .int (iO a0))] hl rfl rfl (by decide) rfl dX4_first_28 (fun ls hl => ?_)
    exact CL4_first_29 X N N a0 1 q3 h _ _ ls hW (lv_sub hl [2, 3, 0] rfl)
  · refine z_aload_n (pc := 10) X.1 hl 1 rfl rfl dX4_first_10 ?_
    refine z_iload_n (pc := 11) X.1 hl 0 rfl rfl dX4_first_11 ?_
    obtain ⟨q12, eq12, h⟩ := z_bind h
    refine z_callV7I (pc := 12) (n := 1) (As := [.int (iO q1)]) (rest := []) X hW hl rfl (C4_refused l N q1 μ eq12) gX4_first_X4_refused rfl (by decide +kernel) rfl (by decide) rfl (Nat.le_of_ble_eq_true rfl) dX4_first_12 (fun H locs hW => ?_)
    exact z_iret (pc := 15) X hW (z_p1 h) (z_p2 h) dX4_first_15
-- X4_lasts
theorem iX4_lasts_5 : ∀ w ∈ wsX20, w ∈ wsX4_lasts := by decide +kernel
theorem iX4_lasts_7 : ∀ w ∈ wsX40, w ∈ wsX4_lasts := by decide +kernel
section
variable {p : Program} {l : Launch} {e : Env} {s : State} {m : MethodId} {args : Array Value} {below : List Frame} {meth : Method} {c : Code} {D : va_G} {cy : ClassId × ClassId} {ad : Nat → Nat} {A : Nat → Prop} {res : (Int × mm)}
theorem CL4_lasts_33 (X : zX p s m args meth c cX4_lasts RX4 wsX4_lasts 4 D cy ad (some .int) A) (N : Nat) : ∀ (k : Nat) (x3 : Int) (μ : mm), L4_lasts_33 N k x3 μ = some res → ∀ (H : Heap) (locs : List Loc) (ls : Array Slot), zW D cy ad A s.heap μ H locs → lv_has ls 4 [(0, .ref (ad 9)), (3, .int (iO x3))] → W p l e (rmD 2) s m args below meth c H locs 0 0 (MQ below (zQi D cy ad A res.1 res.2) args s 0 0 A) (F0 m 33 ls []) := by
  intro k
  induction k with
  | zero =>
    intro x3 μ h H locs ls hW hl
    exact absurd h (by rw [L4_lasts_33]; exact fun z => by cases z)
  | succ k ih =>
    intro x3 μ h H locs ls hW hl
    rw [L4_lasts_33] at h
    refine z_iload_n (pc := 33) X.1 hl 1 rfl rfl dX4_lasts_33 ?_
    refine z_bipush (pc := 34) X.1 dX4_lasts_34 (by decide) ?_
    obtain ⟨g6, h⟩ := z_guard h
    refine z_icmp_gt (pc := 36) (tgt := 63) X.1 dX4_lasts_36 (by decide) ⟨g6, (by decide)⟩ h (fun c10 h => ?_) (fun c10 h => ?_)
    · refine z_aload_n (pc := 63) X.1 hl 0 rfl rfl dX4_lasts_63 ?_
      refine z_get7 (pc := 64) X.1 hW rfl iX4_lasts_7 3 (by decide) rfl (by decide +kernel) dX4_lasts_64 ?_
      refine z_get5 (pc := 67) X.1 hW rfl iX4_lasts_5 6 (by decide) rfl (by decide +kernel) dX4_lasts_67 ?_
      exact z_iret (pc := 70) X hW (z_p1 h) (z_p2 h) dX4_lasts_70
    · refine z_aload_n (pc := 39) X.1 hl 0 rfl rfl dX4_lasts_39 ?_
      refine z_get7 (pc := 40) X.1 hW rfl iX4_lasts_7 3 (by decide) rfl (by decide +kernel) dX4_lasts_40 ?_
      refine z_get5 (pc := 43) X.1 hW rfl iX4_lasts_5 7 (by decide) rfl (by decide +kernel) dX4_lasts_43 ?_
      obtain ⟨g7, h⟩ := z_guard h
      refine z_if_ne (pc := 46) (tgt := 63) X.1 dX4_lasts_46 (by decide) g7 h (fun c9 h => ?_) (fun c9 h => ?_)
      · refine z_aload_n (pc := 63) X.1 hl 0 rfl rfl dX4_lasts_63 ?_
        refine z_get7 (pc := 64) X.1 hW rfl iX4_lasts_7 3 (by decide) rfl (by decide +kernel) dX4_lasts_64 ?_
        refine z_get5 (pc := 67) X.1 hW rfl iX4_lasts_5 6 (by decide) rfl (by decide +kernel) dX4_lasts_67 ?_
        exact z_iret (pc := 70) X hW (z_p1 h) (z_p2 h) dX4_lasts_70
      · refine z_aload_n (pc := 49) X.1 hl 0 rfl rfl dX4_lasts_49 ?_
        refine z_get7 (pc := 50) X.1 hW rfl iX4_lasts_7 3 (by decide) rfl (by decide +kernel) dX4_lasts_50 ?_
        obtain ⟨q8, eq8, h⟩ := z_bind h
        refine z_callV5I (pc := 53) (n := 0) (As := []) (rest := []) X hW hl rfl (C2_oneDay l N 43 rfl μ eq8) gX4_lasts_X2_oneDay rfl (by decide +kernel) rfl (by decide) rfl (Nat.le_of_ble_eq_true rfl) dX4_lasts_53 (fun H locs hW => ?_)
        refine z_pop (pc := 56) X.1 dX4_lasts_56 rfl ?_
        refine z_iinc (pc := 57) (i := 3) X.1 [(3, .int (iO (x3 + 1))), (0, .ref (ad 9))] hl 1 rfl rfl (by decide) rfl dX4_lasts_57 (fun ls hl => ?_)
        refine z_goto (pc := 60) (tgt := 33) X.1 dX4_lasts_60 (by decide) ?_
        exact ih (x3 + 1) q8.2 h _ _ ls hW (lv_sub hl [1, 0] rfl)
end
theorem C4_lasts (l : Launch) {D : va_G} {cy : ClassId × ClassId} {ad : Nat → Nat} (N : Nat) (a0 : Int) (μ : mm) {res : (Int × mm)} (h : M4_lasts N a0 μ = some res) : zI l yX4_lasts wsX4_lasts 2 D cy ad [.ref (ad 9), .int (iO a0)] μ res.1 res.2 := by
  refine zI.of RX4 rfl (by decide) rfl (Nat.le_of_ble_eq_true rfl) ?_
  intro p e s m args below meth c A X hW ls hl
  have hl : lv_has ls 4 [(0, .ref (ad 9)), (1, .int (iO a0))] := hl
  unfold M4_lasts at h
  refine z_aload_n (pc := 0) X.1 hl 0 rfl rfl dX4_lasts_0 ?_
  refine z_iload_n (pc := 1) X.1 hl 1 rfl rfl dX4_lasts_1 ?_
  obtain ⟨q1, eq1, h⟩ := z_bind h
  refine z_callV7I (pc := 2) (n := 1) (As := [.int (iO a0)]) (rest := []) X hW hl rfl (C4_unknown l N a0 μ eq1) gX4_lasts_X4_unknown rfl (by decide +kernel) rfl (by decide) rfl (Nat.le_of_ble_eq_true rfl) dX4_lasts_2 (fun H locs hW => ?_)
  refine z_istore_n (pc := 5) (i := 2) X.1 [(2, .int (iO q1)), (0, .ref (ad 9)), (1, .int (iO a0))] hl rfl rfl (by decide) rfl dX4_lasts_5 (fun ls hl => ?_)
  refine z_iload_n (pc := 6) X.1 hl 0 rfl rfl dX4_lasts_6 ?_
  obtain ⟨g2, h⟩ := z_guard h
  refine z_if_eq (pc := 7) (tgt := 16) X.1 dX4_lasts_7 (by decide) g2 h (fun c12 h => ?_) (fun c12 h => ?_)
  · refine z_aload_n (pc := 16) X.1 hl 1 rfl rfl dX4_lasts_16 ?_
    refine z_get7 (pc := 17) X.1 hW rfl iX4_lasts_7 3 (by decide) rfl (by decide +kernel) dX4_lasts_17 ?_
    refine z_aload_n (pc := 20) X.1 hl 1 rfl rfl dX4_lasts_20 ?_
    refine z_get7 (pc := 21) X.1 hW rfl iX4_lasts_7 0 (by decide) rfl (by decide +kernel) dX4_lasts_21 ?_
    refine z_iload_n (pc := 24) X.1 hl 2 rfl rfl dX4_lasts_24 ?_
    obtain ⟨q3, eq3, h⟩ := z_bind h
    obtain ⟨g4, h⟩ := z_guard h
    refine z_callV3R (pc := 25) (n := 1) (As := [.int (iO a0)]) (rest := [.ref (ad 43)]) X hW hl rfl (C1_at l N 10 a0 rfl μ eq3) gX4_lasts_X1_at rfl (by decide +kernel) rfl (by decide) rfl (Nat.le_of_ble_eq_true rfl) dX4_lasts_25 (fun H locs hW => ?_)
    obtain ⟨q5, eq5, h⟩ := z_bind h
    refine z_callV5V (pc := 28) (n := 1) (As := [.ref (ad q3)]) (rest := []) X hW hl rfl (C2_takeFrom l N 43 q3 rfl g4 μ eq5) gX4_lasts_X2_takeFrom rfl (by decide +kernel) rfl (by decide) rfl (Nat.le_of_ble_eq_true rfl) dX4_lasts_28 (fun H locs hW => ?_)
    refine z_iconst (pc := 31) X.1 dX4_lasts_31 ?_
    refine z_istore_n (pc := 32) (i := 3) X.1 [(3, .int (iO 1)), (2, .int (iO q1)), (0, .ref (ad 9)), (1, .int (iO a0))] hl rfl rfl (by decide) rfl dX4_lasts_32 (fun ls hl => ?_)
    exact CL4_lasts_33 X N N 1 q5 h _ _ ls hW (lv_sub hl [2, 0] rfl)
  · refine z_aload_n (pc := 10) X.1 hl 1 rfl rfl dX4_lasts_10 ?_
    refine z_iload_n (pc := 11) X.1 hl 0 rfl rfl dX4_lasts_11 ?_
    obtain ⟨q11, eq11, h⟩ := z_bind h
    refine z_callV7I (pc := 12) (n := 1) (As := [.int (iO q1)]) (rest := []) X hW hl rfl (C4_refused l N q1 μ eq11) gX4_lasts_X4_refused rfl (by decide +kernel) rfl (by decide) rfl (Nat.le_of_ble_eq_true rfl) dX4_lasts_12 (fun H locs hW => ?_)
    exact z_iret (pc := 15) X hW (z_p1 h) (z_p2 h) dX4_lasts_15
-- X4_lacks
theorem iX4_lacks_3 : ∀ w ∈ wsX10, w ∈ wsX4_lacks := by decide +kernel
theorem iX4_lacks_7 : ∀ w ∈ wsX40, w ∈ wsX4_lacks := by decide +kernel
section
variable {p : Program} {l : Launch} {e : Env} {s : State} {m : MethodId} {args : Array Value} {below : List Frame} {meth : Method} {c : Code} {D : va_G} {cy : ClassId × ClassId} {ad : Nat → Nat} {A : Nat → Prop} {res : Int} {μ0 : mm}
theorem CL4_lacks_4 (X : zX p s m args meth c cX4_lacks RX4 wsX4_lacks 3 D cy ad (some .int) A) (N : Nat) : ∀ (k : Nat) (x1 : Int) (x2 : Int) (μ : mm) (_ : μ = μ0), L4_lacks_4 N k x1 x2 μ = some res → ∀ (H : Heap) (locs : List Loc) (ls : Array Slot), zW D cy ad A s.heap μ H locs → lv_has ls 3 [(0, .ref (ad 9)), (1, .int (iO x1)), (2, .int (iO x2))] → W p l e (rmD 3) s m args below meth c H locs 0 0 (MQ below (zQi D cy ad A res μ0) args s 0 0 A) (F0 m 4 ls []) := by
  intro k
  induction k with
  | zero =>
    intro x1 x2 μ em h H locs ls hW hl
    exact absurd h (by rw [L4_lacks_4]; exact fun z => by cases z)
  | succ k ih =>
    intro x1 x2 μ em h H locs ls hW hl
    rw [L4_lacks_4] at h
    refine z_iload_n (pc := 4) X.1 hl 2 rfl rfl dX4_lacks_4 ?_
    refine z_aload_n (pc := 5) X.1 hl 0 rfl rfl dX4_lacks_5 ?_
    refine z_get7 (pc := 6) X.1 hW rfl iX4_lacks_7 0 (by decide) rfl (by decide +kernel) dX4_lacks_6 ?_
    refine z_get3 (pc := 9) X.1 hW rfl iX4_lacks_3 2 (by decide) rfl (by decide +kernel) dX4_lacks_9 ?_
    obtain ⟨g1, h⟩ := z_guard h
    refine z_icmp_ge (pc := 12) (tgt := 35) X.1 dX4_lacks_12 (by decide) ⟨g1.1, g1.2⟩ h (fun c6 h => ?_) (fun c6 h => ?_)
    · refine z_iload_n (pc := 35) X.1 hl 1 rfl rfl dX4_lacks_35 ?_
      exact z_iret (pc := 36) X hW (Option.some.inj h) em dX4_lacks_36
    · refine z_iload_n (pc := 15) X.1 hl 1 rfl rfl dX4_lacks_15 ?_
      refine z_aload_n (pc := 16) X.1 hl 0 rfl rfl dX4_lacks_16 ?_
      refine z_get7 (pc := 17) X.1 hW rfl iX4_lacks_7 0 (by decide) rfl (by decide +kernel) dX4_lacks_17 ?_
      refine z_iload_n (pc := 20) X.1 hl 2 rfl rfl dX4_lacks_20 ?_
      obtain ⟨q2, eq2, h⟩ := z_bind h
      obtain ⟨g3, h⟩ := z_guard h
      refine z_callV3R (pc := 21) (n := 1) (As := [.int (iO x2)]) (rest := [.int (iO x1)]) X hW hl rfl (C1_at l N 10 x2 rfl μ eq2) gX4_lacks_X1_at rfl (by decide +kernel) rfl (by decide) rfl (Nat.le_of_ble_eq_true rfl) dX4_lacks_21 (fun H locs hW => ?_)
      obtain ⟨q4, eq4, h⟩ := z_bind h
      refine z_callV5I (pc := 24) (n := 0) (As := []) (rest := [.int (iO x1)]) X hW hl g3 (C2_lacking l N q2 g3 μ eq4) gX4_lacks_X2_lacking rfl (by decide +kernel) rfl (by decide) rfl (Nat.le_of_ble_eq_true rfl) dX4_lacks_24 (fun H locs hW => ?_)
      refine z_iadd (pc := 27) X.1 dX4_lacks_27 ?_
      obtain ⟨w5, ew5, h⟩ := z_bnd h
      refine z_istore_n (pc := 28) (i := 1) X.1 [(1, .int (iO w5)), (0, .ref (ad 9)), (2, .int (iO x2))] hl ew5 rfl (by decide) rfl dX4_lacks_28 (fun ls hl => ?_)
      refine z_iinc (pc := 29) (i := 2) X.1 [(2, .int (iO (x2 + 1))), (1, .int (iO w5)), (0, .ref (ad 9))] hl 2 rfl rfl (by decide) rfl dX4_lacks_29 (fun ls hl => ?_)
      refine z_goto (pc := 32) (tgt := 4) X.1 dX4_lacks_32 (by decide) ?_
      exact ih w5 (x2 + 1) μ em h _ _ ls hW (lv_sub hl [2, 1, 0] rfl)
end
theorem C4_lacks (l : Launch) {D : va_G} {cy : ClassId × ClassId} {ad : Nat → Nat} (N : Nat)  (μ0 : mm) {res : Int} (h : M4_lacks N μ0 = some res) : zI l yX4_lacks wsX4_lacks 3 D cy ad [.ref (ad 9)] μ0 res μ0 := by
  refine zI.of RX4 rfl (by decide) rfl (Nat.le_of_ble_eq_true rfl) ?_
  intro p e s m args below meth c A X hW ls hl
  have hl : lv_has ls 3 [(0, .ref (ad 9))] := hl
  unfold M4_lacks at h
  refine z_iconst (pc := 0) X.1 dX4_lacks_0 ?_
  refine z_istore_n (pc := 1) (i := 1) X.1 [(1, .int (iO 0)), (0, .ref (ad 9))] hl rfl rfl (by decide) rfl dX4_lacks_1 (fun ls hl => ?_)
  refine z_iconst (pc := 2) X.1 dX4_lacks_2 ?_
  refine z_istore_n (pc := 3) (i := 2) X.1 [(2, .int (iO 0)), (1, .int (iO 0)), (0, .ref (ad 9))] hl rfl rfl (by decide) rfl dX4_lacks_3 (fun ls hl => ?_)
  exact CL4_lacks_4 X N N 0 0 μ0 rfl h _ _ ls hW (lv_sub hl [2, 1, 0] rfl)
-- X4_next
theorem iX4_next_3 : ∀ w ∈ wsX10, w ∈ wsX4_next := by decide +kernel
theorem iX4_next_5 : ∀ w ∈ wsX20, w ∈ wsX4_next := by decide +kernel
theorem iX4_next_7 : ∀ w ∈ wsX40, w ∈ wsX4_next := by decide +kernel
section
variable {p : Program} {l : Launch} {e : Env} {s : State} {m : MethodId} {args : Array Value} {below : List Frame} {meth : Method} {c : Code} {D : va_G} {cy : ClassId × ClassId} {ad : Nat → Nat} {A : Nat → Prop} {res : (Int × mm)}
theorem CJ4_next_75 (X : zX p s m args meth c cX4_next RX4 wsX4_next 7 D cy ad (some .int) A) (N : Nat) (rec26 : Int → Int → Int → Int → mm → Option (Int × mm)) (hrec26 : ∀ (x1 : Int) (x3 : Int) (x4 : Int) (x5 : Int) (μ : mm), rec26 x1 x3 x4 x5 μ = some res → ∀ (H : Heap) (locs : List Loc) (ls : Array Slot), zW D cy ad A s.heap μ H locs → lv_has ls 7 [(0, .ref (ad 9)), (1, .int (iO x1)), (3, .int (iO x3)), (4, .int (iO x4)), (5, .int (iO x5))] → W p l e (rmD 1) s m args below meth c H locs 0 0 (MQ below (zQi D cy ad A res.1 res.2) args s 0 0 A) (F0 m 26 ls [])) : ∀ (x1 : Int) (x3 : Int) (x4 : Int) (x5 : Int) (μ : mm), J4_next_75 N rec26 x1 x3 x4 x5 μ = some res → ∀ (H : Heap) (locs : List Loc) (ls : Array Slot), zW D cy ad A s.heap μ H locs → lv_has ls 7 [(0, .ref (ad 9)), (1, .int (iO x1)), (3, .int (iO x3)), (4, .int (iO x4)), (5, .int (iO x5))] → W p l e (rmD 1) s m args below meth c H locs 0 0 (MQ below (zQi D cy ad A res.1 res.2) args s 0 0 A) (F0 m 75 ls []) := by
  intro x1 x3 x4 x5 μ h H locs ls hW hl
  rw [J4_next_75] at h
  refine z_iinc (pc := 75) (i := 5) X.1 [(5, .int (iO (x5 + 1))), (0, .ref (ad 9)), (1, .int (iO x1)), (3, .int (iO x3)), (4, .int (iO x4))] hl 4 rfl rfl (by decide) rfl dX4_next_75 (fun ls hl => ?_)
  refine z_goto (pc := 78) (tgt := 26) X.1 dX4_next_78 (by decide) ?_
  exact hrec26 x1 x3 x4 (x5 + 1) μ h _ _ ls hW (lv_sub hl [1, 2, 3, 4, 0] rfl)
theorem CJ4_next_68 (X : zX p s m args meth c cX4_next RX4 wsX4_next 7 D cy ad (some .int) A) (N : Nat) (rec26 : Int → Int → Int → Int → mm → Option (Int × mm)) (hrec26 : ∀ (x1 : Int) (x3 : Int) (x4 : Int) (x5 : Int) (μ : mm), rec26 x1 x3 x4 x5 μ = some res → ∀ (H : Heap) (locs : List Loc) (ls : Array Slot), zW D cy ad A s.heap μ H locs → lv_has ls 7 [(0, .ref (ad 9)), (1, .int (iO x1)), (3, .int (iO x3)), (4, .int (iO x4)), (5, .int (iO x5))] → W p l e (rmD 1) s m args below meth c H locs 0 0 (MQ below (zQi D cy ad A res.1 res.2) args s 0 0 A) (F0 m 26 ls [])) : ∀ (x1 : Int) (x5 : Int) (x6 : Int) (μ : mm), J4_next_68 N rec26 x1 x5 x6 μ = some res → ∀ (H : Heap) (locs : List Loc) (ls : Array Slot), zW D cy ad A s.heap μ H locs → lv_has ls 7 [(0, .ref (ad 9)), (1, .int (iO x1)), (5, .int (iO x5)), (6, .int (iO x6))] → W p l e (rmD 1) s m args below meth c H locs 0 0 (MQ below (zQi D cy ad A res.1 res.2) args s 0 0 A) (F0 m 68 ls []) := by
  intro x1 x5 x6 μ h H locs ls hW hl
  rw [J4_next_68] at h
  refine z_iload (pc := 68) X.1 hl 2 rfl dX4_next_68 ?_
  refine z_istore_n (pc := 70) (i := 3) X.1 [(3, .int (iO x5)), (0, .ref (ad 9)), (1, .int (iO x1)), (5, .int (iO x5)), (6, .int (iO x6))] hl rfl rfl (by decide) rfl dX4_next_70 (fun ls hl => ?_)
  refine z_iload (pc := 71) X.1 hl 4 rfl dX4_next_71 ?_
  refine z_istore (pc := 73) (i := 4) X.1 [(4, .int (iO x6)), (3, .int (iO x5)), (0, .ref (ad 9)), (1, .int (iO x1)), (5, .int (iO x5)), (6, .int (iO x6))] hl rfl (by decide) rfl dX4_next_73 (fun ls hl => ?_)
  exact CJ4_next_75 X N rec26 hrec26 x1 x5 x6 x5 μ h _ _ ls hW (lv_sub hl [2, 3, 1, 0, 4] rfl)
theorem CL4_next_26 (X : zX p s m args meth c cX4_next RX4 wsX4_next 7 D cy ad (some .int) A) (N : Nat) : ∀ (k : Nat) (x1 : Int) (x3 : Int) (x4 : Int) (x5 : Int) (μ : mm), L4_next_26 N k x1 x3 x4 x5 μ = some res → ∀ (H : Heap) (locs : List Loc) (ls : Array Slot), zW D cy ad A s.heap μ H locs → lv_has ls 7 [(0, .ref (ad 9)), (1, .int (iO x1)), (3, .int (iO x3)), (4, .int (iO x4)), (5, .int (iO x5))] → W p l e (rmD 1) s m args below meth c H locs 0 0 (MQ below (zQi D cy ad A res.1 res.2) args s 0 0 A) (F0 m 26 ls []) := by
  intro k
  induction k with
  | zero =>
    intro x1 x3 x4 x5 μ h H locs ls hW hl
    exact absurd h (by rw [L4_next_26]; exact fun z => by cases z)
  | succ k ih =>
    intro x1 x3 x4 x5 μ h H locs ls hW hl
    rw [L4_next_26] at h
    refine z_iload (pc := 26) X.1 hl 4 rfl dX4_next_26 ?_
    refine z_aload_n (pc := 28) X.1 hl 0 rfl rfl dX4_next_28 ?_
    refine z_get7 (pc := 29) X.1 hW rfl iX4_next_7 0 (by decide) rfl (by decide +kernel) dX4_next_29 ?_
    refine z_get3 (pc := 32) X.1 hW rfl iX4_next_3 2 (by decide) rfl (by decide +kernel) dX4_next_32 ?_
    obtain ⟨g3, h⟩ := z_guard h
    refine z_icmp_ge (pc := 35) (tgt := 81) X.1 dX4_next_35 (by decide) ⟨g3.1, g3.2⟩ h (fun c15 h => ?_) (fun c15 h => ?_)
    · refine z_iload_n (pc := 81) X.1 hl 1 rfl rfl dX4_next_81 ?_
      obtain ⟨g4, h⟩ := z_guard h
      refine z_if_ne (pc := 82) (tgt := 89) X.1 dX4_next_82 (by decide) g4 h (fun c5 h => ?_) (fun c5 h => ?_)
      · refine z_iload (pc := 89) X.1 hl 3 rfl dX4_next_89 ?_
        exact z_iret (pc := 91) X hW (z_p1 h) (z_p2 h) dX4_next_91
      · refine z_iload_n (pc := 85) X.1 hl 2 rfl rfl dX4_next_85 ?_
        refine z_goto (pc := 86) (tgt := 91) X.1 dX4_next_86 (by decide) ?_
        exact z_iret (pc := 91) X hW (z_p1 h) (z_p2 h) dX4_next_91
    · refine z_aload_n (pc := 38) X.1 hl 0 rfl rfl dX4_next_38 ?_
      refine z_get7 (pc := 39) X.1 hW rfl iX4_next_7 0 (by decide) rfl (by decide +kernel) dX4_next_39 ?_
      refine z_iload (pc := 42) X.1 hl 4 rfl dX4_next_42 ?_
      obtain ⟨q6, eq6, h⟩ := z_bind h
      obtain ⟨g7, h⟩ := z_guard h
      refine z_callV3R (pc := 44) (n := 1) (As := [.int (iO x5)]) (rest := []) X hW hl rfl (C1_at l N 10 x5 rfl μ eq6) gX4_next_X1_at rfl (by decide +kernel) rfl (by decide) rfl (Nat.le_of_ble_eq_true rfl) dX4_next_44 (fun H locs hW => ?_)
      refine z_get5 (pc := 47) X.1 hW g7 iX4_next_5 3 (by decide) rfl (by decide +kernel) dX4_next_47 ?_
      obtain ⟨w8, ew8, h⟩ := z_bnd h
      refine z_istore (pc := 50) (i := 6) X.1 [(6, .int (iO w8)), (0, .ref (ad 9)), (1, .int (iO x1)), (3, .int (iO x3)), (4, .int (iO x4)), (5, .int (iO x5))] hl ew8 (by decide) rfl dX4_next_50 (fun ls hl => ?_)
      refine z_iload (pc := 52) X.1 hl 0 rfl dX4_next_52 ?_
      obtain ⟨g9, h⟩ := z_guard h
      refine z_if_le (pc := 54) (tgt := 75) X.1 dX4_next_54 (by decide) g9 h (fun c14 h => ?_) (fun c14 h => ?_)
      · exact CJ4_next_75 X N (L4_next_26 N k) ih x1 x3 x4 x5 μ h _ _ ls hW (lv_sub hl [1, 2, 3, 4, 5] rfl)
      · refine z_iload_n (pc := 57) X.1 hl 3 rfl rfl dX4_next_57 ?_
        obtain ⟨g10, h⟩ := z_guard h
        refine z_if_lt (pc := 58) (tgt := 68) X.1 dX4_next_58 (by decide) g10 h (fun c13 h => ?_) (fun c13 h => ?_)
        · exact CJ4_next_68 X N (L4_next_26 N k) ih x1 x5 w8 μ h _ _ ls hW (lv_sub hl [1, 2, 5, 0] rfl)
        · refine z_iload (pc := 61) X.1 hl 0 rfl dX4_next_61 ?_
          refine z_iload (pc := 63) X.1 hl 4 rfl dX4_next_63 ?_
          obtain ⟨g11, h⟩ := z_guard h
          refine z_icmp_ge (pc := 65) (tgt := 75) X.1 dX4_next_65 (by decide) ⟨g11.1, g11.2⟩ h (fun c12 h => ?_) (fun c12 h => ?_)
          · exact CJ4_next_75 X N (L4_next_26 N k) ih x1 x3 x4 x5 μ h _ _ ls hW (lv_sub hl [1, 2, 3, 4, 5] rfl)
          · exact CJ4_next_68 X N (L4_next_26 N k) ih x1 x5 w8 μ h _ _ ls hW (lv_sub hl [1, 2, 5, 0] rfl)
end
theorem C4_next (l : Launch) {D : va_G} {cy : ClassId × ClassId} {ad : Nat → Nat} (N : Nat) (a0 : Int) (μ : mm) {res : (Int × mm)} (h : M4_next N a0 μ = some res) : zI l yX4_next wsX4_next 1 D cy ad [.ref (ad 9), .int (iO a0)] μ res.1 res.2 := by
  refine zI.of RX4 rfl (by decide) rfl (Nat.le_of_ble_eq_true rfl) ?_
  intro p e s m args below meth c A X hW ls hl
  have hl : lv_has ls 7 [(0, .ref (ad 9)), (1, .int (iO a0))] := hl
  unfold M4_next at h
  refine z_iload_n (pc := 0) X.1 hl 1 rfl rfl dX4_next_0 ?_
  refine z_iconst (pc := 1) X.1 dX4_next_1 ?_
  obtain ⟨q1, eq1, h⟩ := z_bind h
  refine z_callSI (pc := 2) (n := 2) (As := [.int (iO a0), .int (iO 1)]) (rest := []) X hW hl (C4_other l N a0 1 μ eq1) gX4_next_X4_other rfl (by decide +kernel) rfl (by decide) rfl (Nat.le_of_ble_eq_true rfl) dX4_next_2 (fun H locs hW => ?_)
  refine z_istore_n (pc := 5) (i := 2) X.1 [(2, .int (iO q1)), (0, .ref (ad 9)), (1, .int (iO a0))] hl rfl rfl (by decide) rfl dX4_next_5 (fun ls hl => ?_)
  refine z_iload_n (pc := 6) X.1 hl 0 rfl rfl dX4_next_6 ?_
  obtain ⟨g2, h⟩ := z_guard h
  refine z_if_eq (pc := 7) (tgt := 16) X.1 dX4_next_7 (by decide) g2 h (fun c17 h => ?_) (fun c17 h => ?_)
  · refine z_bipush (pc := 16) X.1 dX4_next_16 (by decide) ?_
    refine z_istore_n (pc := 18) (i := 3) X.1 [(3, .int (iO (-9))), (2, .int (iO q1)), (0, .ref (ad 9)), (1, .int (iO a0))] hl rfl rfl (by decide) rfl dX4_next_18 (fun ls hl => ?_)
    refine z_bipush (pc := 19) X.1 dX4_next_19 (by decide) ?_
    refine z_istore (pc := 21) (i := 4) X.1 [(4, .int (iO (-9))), (3, .int (iO (-9))), (2, .int (iO q1)), (0, .ref (ad 9)), (1, .int (iO a0))] hl rfl (by decide) rfl dX4_next_21 (fun ls hl => ?_)
    refine z_iconst (pc := 23) X.1 dX4_next_23 ?_
    refine z_istore (pc := 24) (i := 5) X.1 [(5, .int (iO 0)), (4, .int (iO (-9))), (3, .int (iO (-9))), (2, .int (iO q1)), (0, .ref (ad 9)), (1, .int (iO a0))] hl rfl (by decide) rfl dX4_next_24 (fun ls hl => ?_)
    exact CL4_next_26 X N N a0 (-9) (-9) 0 μ h _ _ ls hW (lv_sub hl [4, 5, 2, 1, 0] rfl)
  · refine z_aload_n (pc := 10) X.1 hl 1 rfl rfl dX4_next_10 ?_
    refine z_iload_n (pc := 11) X.1 hl 0 rfl rfl dX4_next_11 ?_
    obtain ⟨q16, eq16, h⟩ := z_bind h
    refine z_callV7I (pc := 12) (n := 1) (As := [.int (iO q1)]) (rest := []) X hW hl rfl (C4_refused l N q1 μ eq16) gX4_next_X4_refused rfl (by decide +kernel) rfl (by decide) rfl (Nat.le_of_ble_eq_true rfl) dX4_next_12 (fun H locs hW => ?_)
    exact z_iret (pc := 15) X hW (z_p1 h) (z_p2 h) dX4_next_15
-- X4_enough
theorem iX4_enough_5 : ∀ w ∈ wsX20, w ∈ wsX4_enough := by decide +kernel
section
variable {p : Program} {l : Launch} {e : Env} {s : State} {m : MethodId} {args : Array Value} {below : List Frame} {meth : Method} {c : Code} {D : va_G} {cy : ClassId × ClassId} {ad : Nat → Nat} {A : Nat → Prop} {res : (Int × mm)}
theorem CL4_enough_30 (X : zX p s m args meth c cX4_enough RX4 wsX4_enough 5 D cy ad (some .int) A) (N : Nat) : ∀ (k : Nat) (x1 : Int) (x2 : Int) (x4 : Int) (μ : mm), L4_enough_30 N k x1 x2 x4 μ = some res → ∀ (H : Heap) (locs : List Loc) (ls : Array Slot), zW D cy ad A s.heap μ H locs → lv_has ls 5 [(0, .ref (ad 9)), (1, .int (iO x1)), (2, .int (iO x2)), (4, .int (iO x4))] → W p l e (rmD 3) s m args below meth c H locs 0 0 (MQ below (zQi D cy ad A res.1 res.2) args s 0 0 A) (F0 m 30 ls []) := by
  intro k
  induction k with
  | zero =>
    intro x1 x2 x4 μ h H locs ls hW hl
    exact absurd h (by rw [L4_enough_30]; exact fun z => by cases z)
  | succ k ih =>
    intro x1 x2 x4 μ h H locs ls hW hl
    rw [L4_enough_30] at h
    refine z_iload (pc := 30) X.1 hl 3 rfl dX4_enough_30 ?_
    refine z_bipush (pc := 32) X.1 dX4_enough_32 (by decide) ?_
    obtain ⟨g5, h⟩ := z_guard h
    refine z_icmp_gt (pc := 34) (tgt := 60) X.1 dX4_enough_34 (by decide) ⟨g5, (by decide)⟩ h (fun c10 h => ?_) (fun c10 h => ?_)
    · refine z_bipush (pc := 60) X.1 dX4_enough_60 (by decide) ?_
      exact z_iret (pc := 62) X hW (z_p1 h) (z_p2 h) dX4_enough_62
    · refine z_aload_n (pc := 37) X.1 hl 0 rfl rfl dX4_enough_37 ?_
      refine z_iload_n (pc := 38) X.1 hl 1 rfl rfl dX4_enough_38 ?_
      refine z_iload (pc := 39) X.1 hl 3 rfl dX4_enough_39 ?_
      refine z_iload_n (pc := 41) X.1 hl 2 rfl rfl dX4_enough_41 ?_
      obtain ⟨q6, eq6, h⟩ := z_bind h
      obtain ⟨g7, h⟩ := z_guard h
      refine z_callV7R (pc := 42) (n := 3) (As := [.int (iO x1), .int (iO x4), .int (iO x2)]) (rest := []) X hW hl rfl (C4_thought l N x1 x4 x2 μ eq6) gX4_enough_X4_thought rfl (by decide +kernel) rfl (by decide) rfl (Nat.le_of_ble_eq_true rfl) dX4_enough_42 (fun H locs hW => ?_)
      refine z_get5 (pc := 45) X.1 hW g7 iX4_enough_5 7 (by decide) rfl (by decide +kernel) dX4_enough_45 ?_
      obtain ⟨g8, h⟩ := z_guard h
      refine z_if_ne (pc := 48) (tgt := 54) X.1 dX4_enough_48 (by decide) g8 h (fun c9 h => ?_) (fun c9 h => ?_)
      · refine z_iinc (pc := 54) (i := 4) X.1 [(4, .int (iO (x4 + 1))), (0, .ref (ad 9)), (1, .int (iO x1)), (2, .int (iO x2))] hl 3 rfl rfl (by decide) rfl dX4_enough_54 (fun ls hl => ?_)
        refine z_goto (pc := 57) (tgt := 30) X.1 dX4_enough_57 (by decide) ?_
        exact ih x1 x2 (x4 + 1) q6.2 h _ _ ls hW (lv_sub hl [1, 2, 3, 0] rfl)
      · refine z_iload (pc := 51) X.1 hl 3 rfl dX4_enough_51 ?_
        exact z_iret (pc := 53) X hW (z_p1 h) (z_p2 h) dX4_enough_53
end
theorem C4_enough (l : Launch) {D : va_G} {cy : ClassId × ClassId} {ad : Nat → Nat} (N : Nat) (a0 : Int) (a1 : Int) (μ : mm) {res : (Int × mm)} (h : M4_enough N a0 a1 μ = some res) : zI l yX4_enough wsX4_enough 3 D cy ad [.ref (ad 9), .int (iO a0), .int (iO a1)] μ res.1 res.2 := by
  refine zI.of RX4 rfl (by decide) rfl (Nat.le_of_ble_eq_true rfl) ?_
  intro p e s m args below meth c A X hW ls hl
  have hl : lv_has ls 5 [(0, .ref (ad 9)), (1, .int (iO a0)), (2, .int (iO a1))] := hl
  unfold M4_enough at h
  refine z_aload_n (pc := 0) X.1 hl 0 rfl rfl dX4_enough_0 ?_
  refine z_iload_n (pc := 1) X.1 hl 1 rfl rfl dX4_enough_1 ?_
  obtain ⟨q1, eq1, h⟩ := z_bind h
  refine z_callV7I (pc := 2) (n := 1) (As := [.int (iO a0)]) (rest := []) X hW hl rfl (C4_unknown l N a0 μ eq1) gX4_enough_X4_unknown rfl (by decide +kernel) rfl (by decide) rfl (Nat.le_of_ble_eq_true rfl) dX4_enough_2 (fun H locs hW => ?_)
  refine z_iload_n (pc := 5) X.1 hl 2 rfl rfl dX4_enough_5 ?_
  refine z_iconst (pc := 6) X.1 dX4_enough_6 ?_
  refine z_bipush (pc := 7) X.1 dX4_enough_7 (by decide) ?_
  obtain ⟨q2, eq2, h⟩ := z_bind h
  refine z_callSI (pc := 9) (n := 3) (As := [.int (iO a1), .int (iO 1), .int (iO 60)]) (rest := [.int (iO q1)]) X hW hl (C4_outside l N a1 1 60 μ eq2) gX4_enough_X4_outside rfl (by decide +kernel) rfl (by decide) rfl (Nat.le_of_ble_eq_true rfl) dX4_enough_9 (fun H locs hW => ?_)
  refine z_iconst (pc := 12) X.1 dX4_enough_12 ?_
  obtain ⟨q3, eq3, h⟩ := z_bind h
  refine z_callSI (pc := 13) (n := 3) (As := [.int (iO q1), .int (iO q2), .int (iO 0)]) (rest := []) X hW hl (C4_firstOf l N q1 q2 0 μ eq3) gX4_enough_X4_firstOf rfl (by decide +kernel) rfl (by decide) rfl (Nat.le_of_ble_eq_true rfl) dX4_enough_13 (fun H locs hW => ?_)
  refine z_istore_n (pc := 16) (i := 3) X.1 [(3, .int (iO q3)), (0, .ref (ad 9)), (1, .int (iO a0)), (2, .int (iO a1))] hl rfl rfl (by decide) rfl dX4_enough_16 (fun ls hl => ?_)
  refine z_iload_n (pc := 17) X.1 hl 0 rfl rfl dX4_enough_17 ?_
  obtain ⟨g4, h⟩ := z_guard h
  refine z_if_eq (pc := 18) (tgt := 27) X.1 dX4_enough_18 (by decide) g4 h (fun c12 h => ?_) (fun c12 h => ?_)
  · refine z_iconst (pc := 27) X.1 dX4_enough_27 ?_
    refine z_istore (pc := 28) (i := 4) X.1 [(4, .int (iO 0)), (3, .int (iO q3)), (0, .ref (ad 9)), (1, .int (iO a0)), (2, .int (iO a1))] hl rfl (by decide) rfl dX4_enough_28 (fun ls hl => ?_)
    exact CL4_enough_30 X N N a0 a1 0 μ h _ _ ls hW (lv_sub hl [2, 3, 4, 0] rfl)
  · refine z_aload_n (pc := 21) X.1 hl 1 rfl rfl dX4_enough_21 ?_
    refine z_iload_n (pc := 22) X.1 hl 0 rfl rfl dX4_enough_22 ?_
    obtain ⟨q11, eq11, h⟩ := z_bind h
    refine z_callV7I (pc := 23) (n := 1) (As := [.int (iO q3)]) (rest := []) X hW hl rfl (C4_refused l N q3 μ eq11) gX4_enough_X4_refused rfl (by decide +kernel) rfl (by decide) rfl (Nat.le_of_ble_eq_true rfl) dX4_enough_23 (fun H locs hW => ?_)
    exact z_iret (pc := 26) X hW (z_p1 h) (z_p2 h) dX4_enough_26
