-- J1_indexOf_4cfef
theorem C1_indexOf_4cfef (l : Launch) {D : va_G} {cy : ClassId × ClassId} {ad : Nat → Nat} (N : Nat) (a0 : Nat) (a1 : Int) (a2 : Int) (a3 : Int) (h_a0 : 80 ≤ a0 ∧ a0 < 86) (μ0 : mm) {res : Int} (h : M1_indexOf_4cfef N a0 a1 a2 a3 μ0 = some res) : zI l yJ1_indexOf_4cfef wsJ1_indexOf_4cfef 1 D cy ad [.ref (ad a0), .int (iO a1), .int (iO a2), .int (iO a3)] μ0 res μ0 := by
  refine zI.of RJ1 rfl (by decide) rfl (Nat.le_of_ble_eq_true rfl) ?_
  intro p e s m args below meth c A X hW ls hl
  have hl : lv_has ls 4 [(0, .ref (ad a0)), (1, .int (iO a1)), (2, .int (iO a2)), (3, .int (iO a3))] := hl
  unfold M1_indexOf_4cfef at h
  refine z_iload_n (pc := 0) X.1 hl 1 rfl rfl dJ1_indexOf_4cfef_0 ?_
  obtain ⟨q1, eq1, h⟩ := z_bind h
  refine z_callSI (pc := 1) (n := 1) (As := [.int (iO a1)]) (rest := []) X hW hl (C1_canEncode_9a6ad l N a1 μ0 eq1) gJ1_indexOf_4cfef_J1_canEncode_9a6ad rfl (by decide +kernel) rfl (by decide) rfl (Nat.le_of_ble_eq_true rfl) dJ1_indexOf_4cfef_1 (fun H locs hW => ?_)
  obtain ⟨g2, h⟩ := z_guard h
  refine z_if_ne (pc := 4) (tgt := 9) X.1 dJ1_indexOf_4cfef_4 (by decide) g2 h (fun c10 h => ?_) (fun c10 h => ?_)
  · refine z_iload_n (pc := 9) X.1 hl 2 rfl rfl dJ1_indexOf_4cfef_9 ?_
    refine z_iconst (pc := 10) X.1 dJ1_indexOf_4cfef_10 ?_
    obtain ⟨g3, h⟩ := z_guard h
    refine z_max (pc := 11) X hl ⟨g3, (by decide)⟩ (by decide +kernel) (by decide +kernel) (by decide +kernel) (by decide +kernel) (by decide) (Nat.le_of_ble_eq_true rfl) dJ1_indexOf_4cfef_11 ?_
    obtain ⟨w4, ew4, h⟩ := z_bnd h
    refine z_istore_n (pc := 14) (i := 2) X.1 [(2, .int (iO w4)), (0, .ref (ad a0)), (1, .int (iO a1)), (3, .int (iO a3))] hl ew4 rfl (by decide) rfl dJ1_indexOf_4cfef_14 (fun ls hl => ?_)
    refine z_iload_n (pc := 15) X.1 hl 3 rfl rfl dJ1_indexOf_4cfef_15 ?_
    refine z_aload_n (pc := 16) X.1 hl 1 rfl rfl dJ1_indexOf_4cfef_16 ?_
    refine z_blen (pc := 17) X hW h_a0 dJ1_indexOf_4cfef_17 ?_
    obtain ⟨g5, h⟩ := z_guard h
    refine z_min (pc := 18) X hl ⟨g5.1, g5.2⟩ (by decide +kernel) (by decide +kernel) (by decide +kernel) (by decide +kernel) (by decide) (Nat.le_of_ble_eq_true rfl) dJ1_indexOf_4cfef_18 ?_
    obtain ⟨w6, ew6, h⟩ := z_bnd h
    refine z_istore_n (pc := 21) (i := 3) X.1 [(3, .int (iO w6)), (2, .int (iO w4)), (0, .ref (ad a0)), (1, .int (iO a1))] hl ew6 rfl (by decide) rfl dJ1_indexOf_4cfef_21 (fun ls hl => ?_)
    refine z_iload_n (pc := 22) X.1 hl 1 rfl rfl dJ1_indexOf_4cfef_22 ?_
    refine z_iload_n (pc := 23) X.1 hl 0 rfl rfl dJ1_indexOf_4cfef_23 ?_
    obtain ⟨g7, h⟩ := z_guard h
    refine z_icmp_lt (pc := 24) (tgt := 29) X.1 dJ1_indexOf_4cfef_24 (by decide) ⟨g7.1, g7.2⟩ h (fun c9 h => ?_) (fun c9 h => ?_)
    · refine z_aload_n (pc := 29) X.1 hl 2 rfl rfl dJ1_indexOf_4cfef_29 ?_
      refine z_iload_n (pc := 30) X.1 hl 3 rfl rfl dJ1_indexOf_4cfef_30 ?_
      refine z_iload_n (pc := 31) X.1 hl 1 rfl rfl dJ1_indexOf_4cfef_31 ?_
      refine z_iload_n (pc := 32) X.1 hl 0 rfl rfl dJ1_indexOf_4cfef_32 ?_
      obtain ⟨q8, eq8, h⟩ := z_bind h
      refine z_callSI (pc := 33) (n := 4) (As := [.ref (ad a0), .int (iO a1), .int (iO w4), .int (iO w6)]) (rest := []) X hW hl (C1_indexOfChar_4cfef l N a0 a1 w4 w6 h_a0 μ0 eq8) gJ1_indexOf_4cfef_J1_indexOfChar_4cfef rfl (by decide +kernel) rfl (by decide) rfl (Nat.le_of_ble_eq_true rfl) dJ1_indexOf_4cfef_33 (fun H locs hW => ?_)
      exact z_iret (pc := 36) X hW (Option.some.inj h) rfl dJ1_indexOf_4cfef_36
    · refine z_iconst (pc := 27) X.1 dJ1_indexOf_4cfef_27 ?_
      exact z_iret (pc := 28) X hW (Option.some.inj h) rfl dJ1_indexOf_4cfef_28
  · refine z_iconst (pc := 7) X.1 dJ1_indexOf_4cfef_7 ?_
    exact z_iret (pc := 8) X hW (Option.some.inj h) rfl dJ1_indexOf_4cfef_8
-- J0_indexOf_7cf53
theorem C0_indexOf_7cf53 (l : Launch) {D : va_G} {cy : ClassId × ClassId} {ad : Nat → Nat} (N : Nat) (o : Nat) (a0 : Int) (a1 : Int) (h_o : 60 ≤ o ∧ o < 66) (μ0 : mm) {res : Int} (h : M0_indexOf_7cf53 N o a0 a1 μ0 = some res) : zI l yJ0_indexOf_7cf53 wsJ0_indexOf_7cf53 2 D cy ad [.ref (ad o), .int (iO a0), .int (iO a1)] μ0 res μ0 := by
  refine zI.of RJ0 rfl (by decide) rfl (Nat.le_of_ble_eq_true rfl) ?_
  intro p e s m args below meth c A X hW ls hl
  have hl : lv_has ls 3 [(0, .ref (ad o)), (1, .int (iO a0)), (2, .int (iO a1))] := hl
  unfold M0_indexOf_7cf53 at h
  refine z_aload_n (pc := 0) X.1 hl 0 rfl rfl dJ0_indexOf_7cf53_0 ?_
  obtain ⟨q1, eq1, h⟩ := z_bind h
  refine z_callVSI (pc := 1) (n := 0) (As := []) (rest := []) X hW hl h_o (C0_isLatin1_aae02 l N o h_o μ0 eq1) gJ0_indexOf_7cf53_J0_isLatin1_aae02 rfl (by decide +kernel) rfl (by decide) rfl (Nat.le_of_ble_eq_true rfl) dJ0_indexOf_7cf53_1 (fun H locs hW => ?_)
  obtain ⟨g2, h⟩ := z_guard h
  refine z_if_eq (pc := 4) (tgt := 23) X.1 dJ0_indexOf_7cf53_4 (by decide) g2 h (fun c6 h => ?_) (fun c6 h => ?_)
  · refine z_aload_n (pc := 23) X.1 hl 0 rfl rfl dJ0_indexOf_7cf53_23 ?_
    refine z_sgetV (pc := 24) X hW h_o (by decide +kernel) dJ0_indexOf_7cf53_24 ?_
    refine z_iload_n (pc := 27) X.1 hl 1 rfl rfl dJ0_indexOf_7cf53_27 ?_
    refine z_iload_n (pc := 28) X.1 hl 2 rfl rfl dJ0_indexOf_7cf53_28 ?_
    refine z_aload_n (pc := 29) X.1 hl 0 rfl rfl dJ0_indexOf_7cf53_29 ?_
    obtain ⟨q3, eq3, h⟩ := z_bind h
    refine z_callVSI (pc := 30) (n := 0) (As := []) (rest := [.int (iO a1), .int (iO a0), .ref (ad (o + 20))]) X hW hl h_o (C0_length_8abf5 l N o h_o μ0 eq3) gJ0_indexOf_7cf53_J0_length_8abf5 rfl (by decide +kernel) rfl (by decide) rfl (Nat.le_of_ble_eq_true rfl) dJ0_indexOf_7cf53_30 (fun H locs hW => ?_)
    cases h
  · refine z_aload_n (pc := 7) X.1 hl 0 rfl rfl dJ0_indexOf_7cf53_7 ?_
    refine z_sgetV (pc := 8) X hW h_o (by decide +kernel) dJ0_indexOf_7cf53_8 ?_
    refine z_iload_n (pc := 11) X.1 hl 1 rfl rfl dJ0_indexOf_7cf53_11 ?_
    refine z_iload_n (pc := 12) X.1 hl 2 rfl rfl dJ0_indexOf_7cf53_12 ?_
    refine z_aload_n (pc := 13) X.1 hl 0 rfl rfl dJ0_indexOf_7cf53_13 ?_
    obtain ⟨q4, eq4, h⟩ := z_bind h
    refine z_callVSI (pc := 14) (n := 0) (As := []) (rest := [.int (iO a1), .int (iO a0), .ref (ad (o + 20))]) X hW hl h_o (C0_length_8abf5 l N o h_o μ0 eq4) gJ0_indexOf_7cf53_J0_length_8abf5 rfl (by decide +kernel) rfl (by decide) rfl (Nat.le_of_ble_eq_true rfl) dJ0_indexOf_7cf53_14 (fun H locs hW => ?_)
    obtain ⟨q5, eq5, h⟩ := z_bind h
    refine z_callSI (pc := 17) (n := 4) (As := [.ref (ad (o + 20)), .int (iO a0), .int (iO a1), .int (iO q4)]) (rest := []) X hW hl (C1_indexOf_4cfef l N (o + 20) a0 a1 q4 (z_s20 h_o) μ0 eq5) gJ0_indexOf_7cf53_J1_indexOf_4cfef rfl (by decide +kernel) rfl (by decide) rfl (Nat.le_of_ble_eq_true rfl) dJ0_indexOf_7cf53_17 (fun H locs hW => ?_)
    refine z_goto (pc := 20) (tgt := 36) X.1 dJ0_indexOf_7cf53_20 (by decide) ?_
    exact z_iret (pc := 36) X hW (Option.some.inj h) rfl dJ0_indexOf_7cf53_36
-- J0_indexOf_0f7a4
theorem C0_indexOf_0f7a4 (l : Launch) {D : va_G} {cy : ClassId × ClassId} {ad : Nat → Nat} (N : Nat) (o : Nat) (a0 : Int) (h_o : 60 ≤ o ∧ o < 66) (μ0 : mm) {res : Int} (h : M0_indexOf_0f7a4 N o a0 μ0 = some res) : zI l yJ0_indexOf_0f7a4 wsJ0_indexOf_0f7a4 3 D cy ad [.ref (ad o), .int (iO a0)] μ0 res μ0 := by
  refine zI.of RJ0 rfl (by decide) rfl (Nat.le_of_ble_eq_true rfl) ?_
  intro p e s m args below meth c A X hW ls hl
  have hl : lv_has ls 2 [(0, .ref (ad o)), (1, .int (iO a0))] := hl
  unfold M0_indexOf_0f7a4 at h
  refine z_aload_n (pc := 0) X.1 hl 0 rfl rfl dJ0_indexOf_0f7a4_0 ?_
  refine z_iload_n (pc := 1) X.1 hl 1 rfl rfl dJ0_indexOf_0f7a4_1 ?_
  refine z_iconst (pc := 2) X.1 dJ0_indexOf_0f7a4_2 ?_
  obtain ⟨q1, eq1, h⟩ := z_bind h
  refine z_callVSI (pc := 3) (n := 2) (As := [.int (iO a0), .int (iO 0)]) (rest := []) X hW hl h_o (C0_indexOf_7cf53 l N o a0 0 h_o μ0 eq1) gJ0_indexOf_0f7a4_J0_indexOf_7cf53 rfl (by decide +kernel) rfl (by decide) rfl (Nat.le_of_ble_eq_true rfl) dJ0_indexOf_0f7a4_3 (fun H locs hW => ?_)
  exact z_iret (pc := 6) X hW (Option.some.inj h) rfl dJ0_indexOf_0f7a4_6
-- X3_kindAt
theorem C3_kindAt (l : Launch) {D : va_G} {cy : ClassId × ClassId} {ad : Nat → Nat} (N : Nat) (a0 : Int) (μ0 : mm) {res : Int} (h : M3_kindAt N a0 μ0 = some res) : zI l yX3_kindAt wsX3_kindAt 4 D cy ad [.ref (ad 44), .int (iO a0)] μ0 res μ0 := by
  refine zI.of RX3 rfl (by decide) rfl (Nat.le_of_ble_eq_true rfl) ?_
  intro p e s m args below meth c A X hW ls hl
  have hl : lv_has ls 3 [(0, .ref (ad 44)), (1, .int (iO a0))] := hl
  unfold M3_kindAt at h
  refine z_aload_n (pc := 0) X.1 hl 0 rfl rfl dX3_kindAt_0 ?_
  refine z_iload_n (pc := 1) X.1 hl 1 rfl rfl dX3_kindAt_1 ?_
  obtain ⟨q1, eq1, h⟩ := z_bind h
  refine z_callV6I (pc := 2) (n := 1) (As := [.int (iO a0)]) (rest := []) X hW hl rfl (C3_letterAt l N a0 μ0 eq1) gX3_kindAt_X3_letterAt rfl (by decide +kernel) rfl (by decide) rfl (Nat.le_of_ble_eq_true rfl) dX3_kindAt_2 (fun H locs hW => ?_)
  refine z_istore_n (pc := 5) (i := 2) X.1 [(2, .int (iO q1)), (0, .ref (ad 44)), (1, .int (iO a0))] hl rfl rfl (by decide) rfl dX3_kindAt_5 (fun ls hl => ?_)
  refine z_iload_n (pc := 6) X.1 hl 0 rfl rfl dX3_kindAt_6 ?_
  obtain ⟨g2, h⟩ := z_guard h
  refine z_if_ge (pc := 7) (tgt := 14) X.1 dX3_kindAt_7 (by decide) g2 h (fun c5 h => ?_) (fun c5 h => ?_)
  · refine z_ldcS23 (pc := 14) X dX3_kindAt_14 ?_
    refine z_iload_n (pc := 16) X.1 hl 0 rfl rfl dX3_kindAt_16 ?_
    obtain ⟨g3, h⟩ := z_guard h
    refine z_i2c (pc := 17) X.1 dX3_kindAt_17 ⟨g3.1, g3.2⟩ ?_
    obtain ⟨q4, eq4, h⟩ := z_bind h
    refine z_callVSI (pc := 18) (n := 1) (As := [.int (iO q1)]) (rest := []) X hW hl (by decide) (C0_indexOf_0f7a4 l N 65 q1 (by decide) μ0 eq4) gX3_kindAt_J0_indexOf_0f7a4 rfl (by decide +kernel) rfl (by decide) rfl (Nat.le_of_ble_eq_true rfl) dX3_kindAt_18 (fun H locs hW => ?_)
    exact z_iret (pc := 21) X hW (Option.some.inj h) rfl dX3_kindAt_21
  · refine z_iconst (pc := 10) X.1 dX3_kindAt_10 ?_
    refine z_goto (pc := 11) (tgt := 21) X.1 dX3_kindAt_11 (by decide) ?_
    exact z_iret (pc := 21) X hW (Option.some.inj h) rfl dX3_kindAt_21
-- X3_number
section
variable {p : Program} {l : Launch} {e : Env} {s : State} {m : MethodId} {args : Array Value} {below : List Frame} {meth : Method} {c : Code} {D : va_G} {cy : ClassId × ClassId} {ad : Nat → Nat} {A : Nat → Prop} {res : Int} {μ0 : mm}
theorem CL3_number_5 (X : zX p s m args meth c cX3_number RX3 wsX3_number 5 D cy ad (some .int) A) (N : Nat) : ∀ (k : Nat) (x1 : Int) (x2 : Int) (x3 : Int) (x4 : Int) (μ : mm) (_ : μ = μ0), L3_number_5 N k x1 x2 x3 x4 μ = some res → ∀ (H : Heap) (locs : List Loc) (ls : Array Slot), zW D cy ad A s.heap μ H locs → lv_has ls 5 [(0, .ref (ad 44)), (1, .int (iO x1)), (2, .int (iO x2)), (3, .int (iO x3)), (4, .int (iO x4))] → W p l e (rmD 1) s m args below meth c H locs 0 0 (MQ below (zQi D cy ad A res μ0) args s 0 0 A) (F0 m 5 ls []) := by
  intro k
  induction k with
  | zero =>
    intro x1 x2 x3 x4 μ em h H locs ls hW hl
    exact absurd h (by rw [L3_number_5]; exact fun z => by cases z)
  | succ k ih =>
    intro x1 x2 x3 x4 μ em h H locs ls hW hl
    rw [L3_number_5] at h
    refine z_iload (pc := 5) X.1 hl 4 rfl dX3_number_5 ?_
    refine z_iload_n (pc := 7) X.1 hl 2 rfl rfl dX3_number_7 ?_
    obtain ⟨g1, h⟩ := z_guard h
    refine z_icmp_ge (pc := 8) (tgt := 34) X.1 dX3_number_8 (by decide) ⟨g1.1, g1.2⟩ h (fun c4 h => ?_) (fun c4 h => ?_)
    · refine z_iload_n (pc := 34) X.1 hl 3 rfl rfl dX3_number_34 ?_
      exact z_iret (pc := 35) X hW (Option.some.inj h) em dX3_number_35
    · refine z_iload_n (pc := 11) X.1 hl 3 rfl rfl dX3_number_11 ?_
      refine z_bipush (pc := 12) X.1 dX3_number_12 (by decide) ?_
      refine z_imul (pc := 14) X.1 dX3_number_14 ?_
      refine z_aload_n (pc := 15) X.1 hl 0 rfl rfl dX3_number_15 ?_
      refine z_iload_n (pc := 16) X.1 hl 1 rfl rfl dX3_number_16 ?_
      refine z_iload (pc := 17) X.1 hl 4 rfl dX3_number_17 ?_
      refine z_iadd (pc := 19) X.1 dX3_number_19 ?_
      obtain ⟨q2, eq2, h⟩ := z_bind h
      refine z_callV6I (pc := 20) (n := 1) (As := [.int (iO (x1 + x4))]) (rest := [.int (iO (x3 * 10))]) X hW hl rfl (C3_letterAt l N (x1 + x4) μ eq2) gX3_number_X3_letterAt rfl (by decide +kernel) rfl (by decide) rfl (Nat.le_of_ble_eq_true rfl) dX3_number_20 (fun H locs hW => ?_)
      refine z_iadd (pc := 23) X.1 dX3_number_23 ?_
      refine z_bipush (pc := 24) X.1 dX3_number_24 (by decide) ?_
      refine z_isub (pc := 26) X.1 dX3_number_26 ?_
      obtain ⟨w3, ew3, h⟩ := z_bnd h
      refine z_istore_n (pc := 27) (i := 3) X.1 [(3, .int (iO w3)), (0, .ref (ad 44)), (1, .int (iO x1)), (2, .int (iO x2)), (4, .int (iO x4))] hl ew3 rfl (by decide) rfl dX3_number_27 (fun ls hl => ?_)
      refine z_iinc (pc := 28) (i := 4) X.1 [(4, .int (iO (x4 + 1))), (3, .int (iO w3)), (0, .ref (ad 44)), (1, .int (iO x1)), (2, .int (iO x2))] hl 4 rfl rfl (by decide) rfl dX3_number_28 (fun ls hl => ?_)
      refine z_goto (pc := 31) (tgt := 5) X.1 dX3_number_31 (by decide) ?_
      exact ih x1 x2 w3 (x4 + 1) μ em h _ _ ls hW (lv_sub hl [2, 3, 4, 1, 0] rfl)
end
theorem C3_number (l : Launch) {D : va_G} {cy : ClassId × ClassId} {ad : Nat → Nat} (N : Nat) (a0 : Int) (a1 : Int) (μ0 : mm) {res : Int} (h : M3_number N a0 a1 μ0 = some res) : zI l yX3_number wsX3_number 1 D cy ad [.ref (ad 44), .int (iO a0), .int (iO a1)] μ0 res μ0 := by
  refine zI.of RX3 rfl (by decide) rfl (Nat.le_of_ble_eq_true rfl) ?_
  intro p e s m args below meth c A X hW ls hl
  have hl : lv_has ls 5 [(0, .ref (ad 44)), (1, .int (iO a0)), (2, .int (iO a1))] := hl
  unfold M3_number at h
  refine z_iconst (pc := 0) X.1 dX3_number_0 ?_
  refine z_istore_n (pc := 1) (i := 3) X.1 [(3, .int (iO 0)), (0, .ref (ad 44)), (1, .int (iO a0)), (2, .int (iO a1))] hl rfl rfl (by decide) rfl dX3_number_1 (fun ls hl => ?_)
  refine z_iconst (pc := 2) X.1 dX3_number_2 ?_
  refine z_istore (pc := 3) (i := 4) X.1 [(4, .int (iO 0)), (3, .int (iO 0)), (0, .ref (ad 44)), (1, .int (iO a0)), (2, .int (iO a1))] hl rfl (by decide) rfl dX3_number_3 (fun ls hl => ?_)
  exact CL3_number_5 X N N a0 a1 0 0 μ0 rfl h _ _ ls hW (lv_sub hl [2, 3, 4, 1, 0] rfl)
-- X3_behind
theorem C3_behind (l : Launch) {D : va_G} {cy : ClassId × ClassId} {ad : Nat → Nat} (N : Nat) (a0 : Int) (μ0 : mm) {res : Nat} (h : M3_behind N a0 μ0 = some res) : zR l yX3_behind wsX3_behind 0 D cy ad [.int (iO a0)] μ0 res μ0 := by
  refine zR.of RX3 rfl (by decide) rfl (Nat.le_of_ble_eq_true rfl) ?_
  intro p e s m args below meth c A X hW ls hl
  have hl : lv_has ls 1 [(0, .int (iO a0))] := hl
  unfold M3_behind at h
  refine z_iload_n (pc := 0) X.1 hl 0 rfl rfl dX3_behind_0 ?_
  obtain ⟨g1, h⟩ := z_guard h
  by_cases c2 : a0 = 100
  · rw [if_pos c2] at h
    refine z_tin (pc := 1) (v := 100) (tgt := 103) X.1 dX3_behind_1 c2 (by decide) (by decide) rfl (by decide) ?_
    refine z_ldcS56 (pc := 103) X dX3_behind_103 ?_
    exact z_aret (pc := 105) X hW (Option.some.inj h) rfl dX3_behind_105
  · rw [if_neg c2] at h
    by_cases c3 : a0 = 101
    · rw [if_pos c3] at h
      refine z_tin (pc := 1) (v := 101) (tgt := 106) X.1 dX3_behind_1 c3 (by decide) (by decide) rfl (by decide) ?_
      refine z_ldcS58 (pc := 106) X dX3_behind_106 ?_
      exact z_aret (pc := 108) X hW (Option.some.inj h) rfl dX3_behind_108
    · rw [if_neg c3] at h
      by_cases c4 : a0 = 102
      · rw [if_pos c4] at h
        refine z_tin (pc := 1) (v := 102) (tgt := 106) X.1 dX3_behind_1 c4 (by decide) (by decide) rfl (by decide) ?_
        refine z_ldcS58 (pc := 106) X dX3_behind_106 ?_
        exact z_aret (pc := 108) X hW (Option.some.inj h) rfl dX3_behind_108
      · rw [if_neg c4] at h
        by_cases c5 : a0 = 103
        · rw [if_pos c5] at h
          refine z_tin (pc := 1) (v := 103) (tgt := 100) X.1 dX3_behind_1 c5 (by decide) (by decide) rfl (by decide) ?_
          refine z_ldcS52 (pc := 100) X dX3_behind_100 ?_
          exact z_aret (pc := 102) X hW (Option.some.inj h) rfl dX3_behind_102
        · rw [if_neg c5] at h
          by_cases c6 : a0 = 104
          · rw [if_pos c6] at h
            refine z_tin (pc := 1) (v := 104) (tgt := 106) X.1 dX3_behind_1 c6 (by decide) (by decide) rfl (by decide) ?_
            refine z_ldcS58 (pc := 106) X dX3_behind_106 ?_
            exact z_aret (pc := 108) X hW (Option.some.inj h) rfl dX3_behind_108
          · rw [if_neg c6] at h
            by_cases c7 : a0 = 105
            · rw [if_pos c7] at h
              refine z_tin (pc := 1) (v := 105) (tgt := 91) X.1 dX3_behind_1 c7 (by decide) (by decide) rfl (by decide) ?_
              refine z_ldcS52 (pc := 91) X dX3_behind_91 ?_
              exact z_aret (pc := 93) X hW (Option.some.inj h) rfl dX3_behind_93
            · rw [if_neg c7] at h
              by_cases c8 : a0 = 106
              · rw [if_pos c8] at h
                refine z_tin (pc := 1) (v := 106) (tgt := 106) X.1 dX3_behind_1 c8 (by decide) (by decide) rfl (by decide) ?_
                refine z_ldcS58 (pc := 106) X dX3_behind_106 ?_
                exact z_aret (pc := 108) X hW (Option.some.inj h) rfl dX3_behind_108
              · rw [if_neg c8] at h
                by_cases c9 : a0 = 107
                · rw [if_pos c9] at h
                  refine z_tin (pc := 1) (v := 107) (tgt := 106) X.1 dX3_behind_1 c9 (by decide) (by decide) rfl (by decide) ?_
                  refine z_ldcS58 (pc := 106) X dX3_behind_106 ?_
                  exact z_aret (pc := 108) X hW (Option.some.inj h) rfl dX3_behind_108
                · rw [if_neg c9] at h
                  by_cases c10 : a0 = 108
                  · rw [if_pos c10] at h
                    refine z_tin (pc := 1) (v := 108) (tgt := 106) X.1 dX3_behind_1 c10 (by decide) (by decide) rfl (by decide) ?_
                    refine z_ldcS58 (pc := 106) X dX3_behind_106 ?_
                    exact z_aret (pc := 108) X hW (Option.some.inj h) rfl dX3_behind_108
                  · rw [if_neg c10] at h
                    by_cases c11 : a0 = 109
                    · rw [if_pos c11] at h
                      refine z_tin (pc := 1) (v := 109) (tgt := 106) X.1 dX3_behind_1 c11 (by decide) (by decide) rfl (by decide) ?_
                      refine z_ldcS58 (pc := 106) X dX3_behind_106 ?_
                      exact z_aret (pc := 108) X hW (Option.some.inj h) rfl dX3_behind_108
                    · rw [if_neg c11] at h
                      by_cases c12 : a0 = 110
                      · rw [if_pos c12] at h
                        refine z_tin (pc := 1) (v := 110) (tgt := 106) X.1 dX3_behind_1 c12 (by decide) (by decide) rfl (by decide) ?_
                        refine z_ldcS58 (pc := 106) X dX3_behind_106 ?_
                        exact z_aret (pc := 108) X hW (Option.some.inj h) rfl dX3_behind_108
                      · rw [if_neg c12] at h
                        by_cases c13 : a0 = 111
                        · rw [if_pos c13] at h
                          refine z_tin (pc := 1) (v := 111) (tgt := 106) X.1 dX3_behind_1 c13 (by decide) (by decide) rfl (by decide) ?_
                          refine z_ldcS58 (pc := 106) X dX3_behind_106 ?_
                          exact z_aret (pc := 108) X hW (Option.some.inj h) rfl dX3_behind_108
                        · rw [if_neg c13] at h
                          by_cases c14 : a0 = 112
                          · rw [if_pos c14] at h
                            refine z_tin (pc := 1) (v := 112) (tgt := 88) X.1 dX3_behind_1 c14 (by decide) (by decide) rfl (by decide) ?_
                            refine z_ldcS50 (pc := 88) X dX3_behind_88 ?_
                            exact z_aret (pc := 90) X hW (Option.some.inj h) rfl dX3_behind_90
                          · rw [if_neg c14] at h
                            by_cases c15 : a0 = 113
                            · rw [if_pos c15] at h
                              refine z_tin (pc := 1) (v := 113) (tgt := 106) X.1 dX3_behind_1 c15 (by decide) (by decide) rfl (by decide) ?_
                              refine z_ldcS58 (pc := 106) X dX3_behind_106 ?_
                              exact z_aret (pc := 108) X hW (Option.some.inj h) rfl dX3_behind_108
                            · rw [if_neg c15] at h
                              by_cases c16 : a0 = 114
                              · rw [if_pos c16] at h
                                refine z_tin (pc := 1) (v := 114) (tgt := 94) X.1 dX3_behind_1 c16 (by decide) (by decide) rfl (by decide) ?_
                                refine z_ldcS54 (pc := 94) X dX3_behind_94 ?_
                                exact z_aret (pc := 96) X hW (Option.some.inj h) rfl dX3_behind_96
                              · rw [if_neg c16] at h
                                by_cases c17 : a0 = 115
                                · rw [if_pos c17] at h
                                  refine z_tin (pc := 1) (v := 115) (tgt := 106) X.1 dX3_behind_1 c17 (by decide) (by decide) rfl (by decide) ?_
                                  refine z_ldcS58 (pc := 106) X dX3_behind_106 ?_
                                  exact z_aret (pc := 108) X hW (Option.some.inj h) rfl dX3_behind_108
                                · rw [if_neg c17] at h
                                  by_cases c18 : a0 = 116
                                  · rw [if_pos c18] at h
                                    refine z_tin (pc := 1) (v := 116) (tgt := 106) X.1 dX3_behind_1 c18 (by decide) (by decide) rfl (by decide) ?_
                                    refine z_ldcS58 (pc := 106) X dX3_behind_106 ?_
                                    exact z_aret (pc := 108) X hW (Option.some.inj h) rfl dX3_behind_108
                                  · rw [if_neg c18] at h
                                    by_cases c19 : a0 = 117
                                    · rw [if_pos c19] at h
                                      refine z_tin (pc := 1) (v := 117) (tgt := 97) X.1 dX3_behind_1 c19 (by decide) (by decide) rfl (by decide) ?_
                                      refine z_ldcS52 (pc := 97) X dX3_behind_97 ?_
                                      exact z_aret (pc := 99) X hW (Option.some.inj h) rfl dX3_behind_99
                                    · rw [if_neg c19] at h
                                      refine z_tout (pc := 1) (tgt := 106) X.1 dX3_behind_1 g1 (by omega) (by decide) ?_
                                      refine z_ldcS58 (pc := 106) X dX3_behind_106 ?_
                                      exact z_aret (pc := 108) X hW (Option.some.inj h) rfl dX3_behind_108
-- X3_lengthAt
theorem C3_lengthAt (l : Launch) {D : va_G} {cy : ClassId × ClassId} {ad : Nat → Nat} (N : Nat) (a0 : Int) (μ0 : mm) {res : Int} (h : M3_lengthAt N a0 μ0 = some res) : zI l yX3_lengthAt wsX3_lengthAt 2 D cy ad [.ref (ad 44), .int (iO a0)] μ0 res μ0 := by
  refine zI.of RX3 rfl (by decide) rfl (Nat.le_of_ble_eq_true rfl) ?_
  intro p e s m args below meth c A X hW ls hl
  have hl : lv_has ls 2 [(0, .ref (ad 44)), (1, .int (iO a0))] := hl
  unfold M3_lengthAt at h
  refine z_iconst (pc := 0) X.1 dX3_lengthAt_0 ?_
  refine z_aload_n (pc := 1) X.1 hl 0 rfl rfl dX3_lengthAt_1 ?_
  refine z_iload_n (pc := 2) X.1 hl 1 rfl rfl dX3_lengthAt_2 ?_
  obtain ⟨q1, eq1, h⟩ := z_bind h
  refine z_callV6I (pc := 3) (n := 1) (As := [.int (iO a0)]) (rest := [.int (iO 1)]) X hW hl rfl (C3_letterAt l N a0 μ0 eq1) gX3_lengthAt_X3_letterAt rfl (by decide +kernel) rfl (by decide) rfl (Nat.le_of_ble_eq_true rfl) dX3_lengthAt_3 (fun H locs hW => ?_)
  obtain ⟨q2, eq2, h⟩ := z_bind h
  obtain ⟨g3, h⟩ := z_guard h
  refine z_callSR (pc := 6) (n := 1) (As := [.int (iO q1)]) (rest := [.int (iO 1)]) X hW hl (C3_behind l N q1 μ0 eq2) gX3_lengthAt_X3_behind rfl (by decide +kernel) rfl (by decide) rfl (Nat.le_of_ble_eq_true rfl) dX3_lengthAt_6 (fun H locs hW => ?_)
  obtain ⟨q4, eq4, h⟩ := z_bind h
  refine z_callVSI (pc := 9) (n := 0) (As := []) (rest := [.int (iO 1)]) X hW hl g3 (C0_length_8abf5 l N q2 g3 μ0 eq4) gX3_lengthAt_J0_length_8abf5 rfl (by decide +kernel) rfl (by decide) rfl (Nat.le_of_ble_eq_true rfl) dX3_lengthAt_9 (fun H locs hW => ?_)
  refine z_iadd (pc := 12) X.1 dX3_lengthAt_12 ?_
  exact z_iret (pc := 13) X hW (Option.some.inj h) rfl dX3_lengthAt_13
-- J0_isEmpty_aae02
theorem C0_isEmpty_aae02 (l : Launch) {D : va_G} {cy : ClassId × ClassId} {ad : Nat → Nat} (N : Nat) (o : Nat) (h_o : 60 ≤ o ∧ o < 66) (μ0 : mm) {res : Int} (h : M0_isEmpty_aae02 N o μ0 = some res) : zI l yJ0_isEmpty_aae02 wsJ0_isEmpty_aae02 0 D cy ad [.ref (ad o)] μ0 res μ0 := by
  refine zI.of RJ0 rfl (by decide) rfl (Nat.le_of_ble_eq_true rfl) ?_
  intro p e s m args below meth c A X hW ls hl
  have hl : lv_has ls 1 [(0, .ref (ad o))] := hl
  unfold M0_isEmpty_aae02 at h
  refine z_aload_n (pc := 0) X.1 hl 0 rfl rfl dJ0_isEmpty_aae02_0 ?_
  refine z_sgetV (pc := 1) X hW h_o (by decide +kernel) dJ0_isEmpty_aae02_1 ?_
  refine z_blen (pc := 4) X hW (z_s20 h_o) dJ0_isEmpty_aae02_4 ?_
  obtain ⟨g1, h⟩ := z_guard h
  refine z_if_ne (pc := 5) (tgt := 12) X.1 dJ0_isEmpty_aae02_5 (by decide) g1 h (fun c2 h => ?_) (fun c2 h => ?_)
  · refine z_iconst (pc := 12) X.1 dJ0_isEmpty_aae02_12 ?_
    exact z_zret (pc := 13) X hW (by decide) (Option.some.inj h) rfl dJ0_isEmpty_aae02_13
  · refine z_iconst (pc := 8) X.1 dJ0_isEmpty_aae02_8 ?_
    refine z_goto (pc := 9) (tgt := 13) X.1 dJ0_isEmpty_aae02_9 (by decide) ?_
    exact z_zret (pc := 13) X hW (by decide) (Option.some.inj h) rfl dJ0_isEmpty_aae02_13
-- J1_charAt_3b067
theorem C1_charAt_3b067 (l : Launch) {D : va_G} {cy : ClassId × ClassId} {ad : Nat → Nat} (N : Nat) (a0 : Nat) (a1 : Int) (h_a0 : 80 ≤ a0 ∧ a0 < 86) (μ0 : mm) {res : Int} (h : M1_charAt_3b067 N a0 a1 μ0 = some res) : zI l yJ1_charAt_3b067 wsJ1_charAt_3b067 2 D cy ad [.ref (ad a0), .int (iO a1)] μ0 res μ0 := by
  refine zI.of RJ1 rfl (by decide) rfl (Nat.le_of_ble_eq_true rfl) ?_
  intro p e s m args below meth c A X hW ls hl
  have hl : lv_has ls 2 [(0, .ref (ad a0)), (1, .int (iO a1))] := hl
  unfold M1_charAt_3b067 at h
  refine z_iload_n (pc := 0) X.1 hl 1 rfl rfl dJ1_charAt_3b067_0 ?_
  refine z_aload_n (pc := 1) X.1 hl 0 rfl rfl dJ1_charAt_3b067_1 ?_
  refine z_blen (pc := 2) X hW h_a0 dJ1_charAt_3b067_2 ?_
  obtain ⟨q1, eq1, h⟩ := z_bind h
  refine z_callSV (pc := 3) (n := 2) (As := [.int (iO a1), .int (iO (blen a0))]) (rest := []) X hW hl (C0_checkIndex_df160 l N a1 (blen a0) μ0 eq1) gJ1_charAt_3b067_J0_checkIndex_df160 rfl (by decide +kernel) rfl (by decide) rfl (Nat.le_of_ble_eq_true rfl) dJ1_charAt_3b067_3 (fun H locs hW => ?_)
  refine z_aload_n (pc := 6) X.1 hl 0 rfl rfl dJ1_charAt_3b067_6 ?_
  refine z_iload_n (pc := 7) X.1 hl 1 rfl rfl dJ1_charAt_3b067_7 ?_
  obtain ⟨g2, h⟩ := z_guard h
  refine z_bald (pc := 8) X hW h_a0 ⟨g2.1, g2.2⟩ dJ1_charAt_3b067_8 ?_
  refine z_sipush (pc := 9) X.1 dJ1_charAt_3b067_9 (by decide) ?_
  refine z_iand255 (pc := 12) X.1 dJ1_charAt_3b067_12 ?_
  obtain ⟨g3, h⟩ := z_guard h
  refine z_i2c (pc := 13) X.1 dJ1_charAt_3b067_13 ⟨g3.1, g3.2⟩ ?_
  obtain ⟨g4, h⟩ := z_guard h
  exact z_cret (pc := 14) X hW ⟨g4.1, g4.2⟩ (Option.some.inj h) rfl dJ1_charAt_3b067_14
-- J0_charAt_5068e
theorem C0_charAt_5068e (l : Launch) {D : va_G} {cy : ClassId × ClassId} {ad : Nat → Nat} (N : Nat) (o : Nat) (a0 : Int) (h_o : 60 ≤ o ∧ o < 66) (μ0 : mm) {res : Int} (h : M0_charAt_5068e N o a0 μ0 = some res) : zI l yJ0_charAt_5068e wsJ0_charAt_5068e 3 D cy ad [.ref (ad o), .int (iO a0)] μ0 res μ0 := by
  refine zI.of RJ0 rfl (by decide) rfl (Nat.le_of_ble_eq_true rfl) ?_
  intro p e s m args below meth c A X hW ls hl
  have hl : lv_has ls 2 [(0, .ref (ad o)), (1, .int (iO a0))] := hl
  unfold M0_charAt_5068e at h
  refine z_aload_n (pc := 0) X.1 hl 0 rfl rfl dJ0_charAt_5068e_0 ?_
  obtain ⟨q1, eq1, h⟩ := z_bind h
  refine z_callVSI (pc := 1) (n := 0) (As := []) (rest := []) X hW hl h_o (C0_isLatin1_aae02 l N o h_o μ0 eq1) gJ0_charAt_5068e_J0_isLatin1_aae02 rfl (by decide +kernel) rfl (by decide) rfl (Nat.le_of_ble_eq_true rfl) dJ0_charAt_5068e_1 (fun H locs hW => ?_)
  obtain ⟨g2, h⟩ := z_guard h
  refine z_if_eq (pc := 4) (tgt := 16) X.1 dJ0_charAt_5068e_4 (by decide) g2 h (fun c5 h => ?_) (fun c5 h => ?_)
  · refine z_aload_n (pc := 16) X.1 hl 0 rfl rfl dJ0_charAt_5068e_16 ?_
    refine z_sgetV (pc := 17) X hW h_o (by decide +kernel) dJ0_charAt_5068e_17 ?_
    refine z_iload_n (pc := 20) X.1 hl 1 rfl rfl dJ0_charAt_5068e_20 ?_
    cases h
  · refine z_aload_n (pc := 7) X.1 hl 0 rfl rfl dJ0_charAt_5068e_7 ?_
    refine z_sgetV (pc := 8) X hW h_o (by decide +kernel) dJ0_charAt_5068e_8 ?_
    refine z_iload_n (pc := 11) X.1 hl 1 rfl rfl dJ0_charAt_5068e_11 ?_
    obtain ⟨q3, eq3, h⟩ := z_bind h
    refine z_callSI (pc := 12) (n := 2) (As := [.ref (ad (o + 20)), .int (iO a0)]) (rest := []) X hW hl (C1_charAt_3b067 l N (o + 20) a0 (z_s20 h_o) μ0 eq3) gJ0_charAt_5068e_J1_charAt_3b067 rfl (by decide +kernel) rfl (by decide) rfl (Nat.le_of_ble_eq_true rfl) dJ0_charAt_5068e_12 (fun H locs hW => ?_)
    obtain ⟨g4, h⟩ := z_guard h
    exact z_cret (pc := 15) X hW ⟨g4.1, g4.2⟩ (Option.some.inj h) rfl dJ0_charAt_5068e_15
-- X3_fits
theorem C3_fits (l : Launch) {D : va_G} {cy : ClassId × ClassId} {ad : Nat → Nat} (N : Nat) (a0 : Int) (a1 : Int) (μ0 : mm) {res : Int} (h : M3_fits N a0 a1 μ0 = some res) : zI l yX3_fits wsX3_fits 5 D cy ad [.ref (ad 44), .int (iO a0), .int (iO a1)] μ0 res μ0 := by
  refine zI.of RX3 rfl (by decide) rfl (Nat.le_of_ble_eq_true rfl) ?_
  intro p e s m args below meth c A X hW ls hl
  have hl : lv_has ls 4 [(0, .ref (ad 44)), (1, .int (iO a0)), (2, .int (iO a1))] := hl
  unfold M3_fits at h
  refine z_aload_n (pc := 0) X.1 hl 0 rfl rfl dX3_fits_0 ?_
  refine z_iload_n (pc := 1) X.1 hl 1 rfl rfl dX3_fits_1 ?_
  obtain ⟨q1, eq1, h⟩ := z_bind h
  refine z_callV6I (pc := 2) (n := 1) (As := [.int (iO a0)]) (rest := []) X hW hl rfl (C3_letterAt l N a0 μ0 eq1) gX3_fits_X3_letterAt rfl (by decide +kernel) rfl (by decide) rfl (Nat.le_of_ble_eq_true rfl) dX3_fits_2 (fun H locs hW => ?_)
  refine z_istore_n (pc := 5) (i := 3) X.1 [(3, .int (iO q1)), (0, .ref (ad 44)), (1, .int (iO a0)), (2, .int (iO a1))] hl rfl rfl (by decide) rfl dX3_fits_5 (fun ls hl => ?_)
  refine z_iload_n (pc := 6) X.1 hl 3 rfl rfl dX3_fits_6 ?_
  obtain ⟨g2, h⟩ := z_guard h
  by_cases c7 : a1 = 48
  · rw [if_pos c7] at h
    refine z_lsw (pc := 7) (tgt := 46) X.1 dX3_fits_7 (by decide) g2 (by rw [c7]) (by decide) ?_
    refine z_iload_n (pc := 46) X.1 hl 0 rfl rfl dX3_fits_46 ?_
    refine z_bipush (pc := 47) X.1 dX3_fits_47 (by decide) ?_
    obtain ⟨g3, h⟩ := z_guard h
    refine z_icmp_lt (pc := 49) (tgt := 62) X.1 dX3_fits_49 (by decide) ⟨g3, (by decide)⟩ h (fun c6 h => ?_) (fun c6 h => ?_)
    · refine z_iconst (pc := 62) X.1 dX3_fits_62 ?_
      exact z_zret (pc := 63) X hW (by decide) (Option.some.inj h) rfl dX3_fits_63
    · refine z_iload_n (pc := 52) X.1 hl 0 rfl rfl dX3_fits_52 ?_
      refine z_bipush (pc := 53) X.1 dX3_fits_53 (by decide) ?_
      obtain ⟨g4, h⟩ := z_guard h
      refine z_icmp_gt (pc := 55) (tgt := 62) X.1 dX3_fits_55 (by decide) ⟨g4, (by decide)⟩ h (fun c5 h => ?_) (fun c5 h => ?_)
      · refine z_iconst (pc := 62) X.1 dX3_fits_62 ?_
        exact z_zret (pc := 63) X hW (by decide) (Option.some.inj h) rfl dX3_fits_63
      · refine z_iconst (pc := 58) X.1 dX3_fits_58 ?_
        refine z_goto (pc := 59) (tgt := 63) X.1 dX3_fits_59 (by decide) ?_
        exact z_zret (pc := 63) X hW (by decide) (Option.some.inj h) rfl dX3_fits_63
  · rw [if_neg c7] at h
    by_cases c11 : a1 = 107
    · rw [if_pos c11] at h
      refine z_lsw (pc := 7) (tgt := 32) X.1 dX3_fits_7 (by decide) g2 (by rw [c11]) (by decide) ?_
      refine z_aload_n (pc := 32) X.1 hl 1 rfl rfl dX3_fits_32 ?_
      refine z_iload_n (pc := 33) X.1 hl 2 rfl rfl dX3_fits_33 ?_
      obtain ⟨q8, eq8, h⟩ := z_bind h
      refine z_callV6I (pc := 34) (n := 1) (As := [.int (iO a0)]) (rest := []) X hW hl rfl (C3_kindAt l N a0 μ0 eq8) gX3_fits_X3_kindAt rfl (by decide +kernel) rfl (by decide) rfl (Nat.le_of_ble_eq_true rfl) dX3_fits_34 (fun H locs hW => ?_)
      obtain ⟨g9, h⟩ := z_guard h
      refine z_if_lt (pc := 37) (tgt := 44) X.1 dX3_fits_37 (by decide) g9 h (fun c10 h => ?_) (fun c10 h => ?_)
      · refine z_iconst (pc := 44) X.1 dX3_fits_44 ?_
        exact z_zret (pc := 45) X hW (by decide) (Option.some.inj h) rfl dX3_fits_45
      · refine z_iconst (pc := 40) X.1 dX3_fits_40 ?_
        refine z_goto (pc := 41) (tgt := 45) X.1 dX3_fits_41 (by decide) ?_
        exact z_zret (pc := 45) X hW (by decide) (Option.some.inj h) rfl dX3_fits_45
    · rw [if_neg c11] at h
      refine z_lsw (pc := 7) (off := 57) (tgt := 64) X.1 dX3_fits_7 (by decide) g2 (by rw [Op.lookupswitch.offset_cons, if_neg (Ne.symm c7), Op.lookupswitch.offset_cons, if_neg (Ne.symm c11)]; rfl) (by decide) ?_
      refine z_iload_n (pc := 64) X.1 hl 0 rfl rfl dX3_fits_64 ?_
      refine z_iload_n (pc := 65) X.1 hl 3 rfl rfl dX3_fits_65 ?_
      obtain ⟨g12, h⟩ := z_guard h
      refine z_icmp_ne (pc := 66) (tgt := 73) X.1 dX3_fits_66 (by decide) ⟨g12.1, g12.2⟩ h (fun c13 h => ?_) (fun c13 h => ?_)
      · refine z_iconst (pc := 73) X.1 dX3_fits_73 ?_
        exact z_zret (pc := 74) X hW (by decide) (Option.some.inj h) rfl dX3_fits_74
      · refine z_iconst (pc := 69) X.1 dX3_fits_69 ?_
        refine z_goto (pc := 70) (tgt := 74) X.1 dX3_fits_70 (by decide) ?_
        exact z_zret (pc := 74) X hW (by decide) (Option.some.inj h) rfl dX3_fits_74
-- X3_firstWrong
theorem iX3_firstWrong_6 : ∀ w ∈ wsX30, w ∈ wsX3_firstWrong := by decide +kernel
section
variable {p : Program} {l : Launch} {e : Env} {s : State} {m : MethodId} {args : Array Value} {below : List Frame} {meth : Method} {c : Code} {D : va_G} {cy : ClassId × ClassId} {ad : Nat → Nat} {A : Nat → Prop} {res : Int} {μ0 : mm}
theorem CL3_firstWrong_42 (X : zX p s m args meth c cX3_firstWrong RX3 wsX3_firstWrong 4 D cy ad (some .int) A) (N : Nat) (rec11 : Int → mm → Option Int) (hrec11 : ∀ (x1 : Int) (μ : mm) (_ : μ = μ0), rec11 x1 μ = some res → ∀ (H : Heap) (locs : List Loc) (ls : Array Slot), zW D cy ad A s.heap μ H locs → lv_has ls 4 [(0, .ref (ad 44)), (1, .int (iO x1))] → W p l e (rmD 6) s m args below meth c H locs 0 0 (MQ below (zQi D cy ad A res μ0) args s 0 0 A) (F0 m 11 ls [])) : ∀ (k : Nat) (x1 : Int) (r2 : Nat) (x3 : Int) (hk_r2 : 60 ≤ r2 ∧ r2 < 66) (μ : mm) (_ : μ = μ0), L3_firstWrong_42 N rec11 k x1 r2 x3 μ = some res → ∀ (H : Heap) (locs : List Loc) (ls : Array Slot), zW D cy ad A s.heap μ H locs → lv_has ls 4 [(0, .ref (ad 44)), (1, .int (iO x1)), (2, .ref (ad r2)), (3, .int (iO x3))] → W p l e (rmD 6) s m args below meth c H locs 0 0 (MQ below (zQi D cy ad A res μ0) args s 0 0 A) (F0 m 42 ls []) := by
  intro k
  induction k with
  | zero =>
    intro x1 r2 x3 hk_r2 μ em h H locs ls hW hl
    exact absurd h (by rw [L3_firstWrong_42]; exact fun z => by cases z)
  | succ k ih =>
    intro x1 r2 x3 hk_r2 μ em h H locs ls hW hl
    rw [L3_firstWrong_42] at h
    refine z_iload_n (pc := 42) X.1 hl 3 rfl rfl dX3_firstWrong_42 ?_
    refine z_aload_n (pc := 43) X.1 hl 2 rfl rfl dX3_firstWrong_43 ?_
    obtain ⟨q8, eq8, h⟩ := z_bind h
    refine z_callVSI (pc := 44) (n := 0) (As := []) (rest := [.int (iO x3)]) X hW hl hk_r2 (C0_length_8abf5 l N r2 hk_r2 μ eq8) gX3_firstWrong_J0_length_8abf5 rfl (by decide +kernel) rfl (by decide) rfl (Nat.le_of_ble_eq_true rfl) dX3_firstWrong_44 (fun H locs hW => ?_)
    obtain ⟨g9, h⟩ := z_guard h
    refine z_icmp_ge (pc := 47) (tgt := 74) X.1 dX3_firstWrong_47 (by decide) ⟨g9.1, g9.2⟩ h (fun c14 h => ?_) (fun c14 h => ?_)
    · refine z_goto (pc := 74) (tgt := 11) X.1 dX3_firstWrong_74 (by decide) ?_
      exact hrec11 x1 μ em h _ _ ls hW (lv_sub hl [0, 1] rfl)
    · refine z_aload_n (pc := 50) X.1 hl 0 rfl rfl dX3_firstWrong_50 ?_
      refine z_iload_n (pc := 51) X.1 hl 1 rfl rfl dX3_firstWrong_51 ?_
      refine z_aload_n (pc := 52) X.1 hl 2 rfl rfl dX3_firstWrong_52 ?_
      refine z_iload_n (pc := 53) X.1 hl 3 rfl rfl dX3_firstWrong_53 ?_
      obtain ⟨q10, eq10, h⟩ := z_bind h
      refine z_callVSI (pc := 54) (n := 1) (As := [.int (iO x3)]) (rest := [.int (iO x1), .ref (ad 44)]) X hW hl hk_r2 (C0_charAt_5068e l N r2 x3 hk_r2 μ eq10) gX3_firstWrong_J0_charAt_5068e rfl (by decide +kernel) rfl (by decide) rfl (Nat.le_of_ble_eq_true rfl) dX3_firstWrong_54 (fun H locs hW => ?_)
      obtain ⟨q11, eq11, h⟩ := z_bind h
      refine z_callV6I (pc := 57) (n := 2) (As := [.int (iO x1), .int (iO q10)]) (rest := []) X hW hl rfl (C3_fits l N x1 q10 μ eq11) gX3_firstWrong_X3_fits rfl (by decide +kernel) rfl (by decide) rfl (Nat.le_of_ble_eq_true rfl) dX3_firstWrong_57 (fun H locs hW => ?_)
      obtain ⟨g12, h⟩ := z_guard h
      refine z_if_ne (pc := 60) (tgt := 65) X.1 dX3_firstWrong_60 (by decide) g12 h (fun c13 h => ?_) (fun c13 h => ?_)
      · refine z_iinc (pc := 65) (i := 1) X.1 [(1, .int (iO (x1 + 1))), (0, .ref (ad 44)), (2, .ref (ad r2)), (3, .int (iO x3))] hl 1 rfl rfl (by decide) rfl dX3_firstWrong_65 (fun ls hl => ?_)
        refine z_iinc (pc := 68) (i := 3) X.1 [(3, .int (iO (x3 + 1))), (1, .int (iO (x1 + 1))), (0, .ref (ad 44)), (2, .ref (ad r2))] hl 3 rfl rfl (by decide) rfl dX3_firstWrong_68 (fun ls hl => ?_)
        refine z_goto (pc := 71) (tgt := 42) X.1 dX3_firstWrong_71 (by decide) ?_
        exact ih (x1 + 1) r2 (x3 + 1) hk_r2 μ em h _ _ ls hW (lv_sub hl [2, 1, 3, 0] rfl)
      · refine z_iload_n (pc := 63) X.1 hl 1 rfl rfl dX3_firstWrong_63 ?_
        exact z_iret (pc := 64) X hW (Option.some.inj h) em dX3_firstWrong_64
theorem CL3_firstWrong_11 (X : zX p s m args meth c cX3_firstWrong RX3 wsX3_firstWrong 4 D cy ad (some .int) A) (N : Nat) : ∀ (k : Nat) (x1 : Int) (μ : mm) (_ : μ = μ0), L3_firstWrong_11 N k x1 μ = some res → ∀ (H : Heap) (locs : List Loc) (ls : Array Slot), zW D cy ad A s.heap μ H locs → lv_has ls 4 [(0, .ref (ad 44)), (1, .int (iO x1))] → W p l e (rmD 6) s m args below meth c H locs 0 0 (MQ below (zQi D cy ad A res μ0) args s 0 0 A) (F0 m 11 ls []) := by
  intro k
  induction k with
  | zero =>
    intro x1 μ em h H locs ls hW hl
    exact absurd h (by rw [L3_firstWrong_11]; exact fun z => by cases z)
  | succ k ih =>
    intro x1 μ em h H locs ls hW hl
    rw [L3_firstWrong_11] at h
    refine z_iload_n (pc := 11) X.1 hl 1 rfl rfl dX3_firstWrong_11 ?_
    refine z_aload_n (pc := 12) X.1 hl 0 rfl rfl dX3_firstWrong_12 ?_
    refine z_get6 (pc := 13) X.1 hW rfl iX3_firstWrong_6 1 (by decide) rfl (by decide +kernel) dX3_firstWrong_13 ?_
    obtain ⟨g2, h⟩ := z_guard h
    refine z_icmp_ge (pc := 16) (tgt := 77) X.1 dX3_firstWrong_16 (by decide) ⟨g2.1, g2.2⟩ h (fun c16 h => ?_) (fun c16 h => ?_)
    · refine z_iconst (pc := 77) X.1 dX3_firstWrong_77 ?_
      exact z_iret (pc := 78) X hW (Option.some.inj h) em dX3_firstWrong_78
    · refine z_aload_n (pc := 19) X.1 hl 0 rfl rfl dX3_firstWrong_19 ?_
      refine z_iload_n (pc := 20) X.1 hl 1 rfl rfl dX3_firstWrong_20 ?_
      obtain ⟨q3, eq3, h⟩ := z_bind h
      refine z_callV6I (pc := 21) (n := 1) (As := [.int (iO x1)]) (rest := []) X hW hl rfl (C3_letterAt l N x1 μ eq3) gX3_firstWrong_X3_letterAt rfl (by decide +kernel) rfl (by decide) rfl (Nat.le_of_ble_eq_true rfl) dX3_firstWrong_21 (fun H locs hW => ?_)
      obtain ⟨q4, eq4, h⟩ := z_bind h
      obtain ⟨g5, h⟩ := z_guard h
      refine z_callSR (pc := 24) (n := 1) (As := [.int (iO q3)]) (rest := []) X hW hl (C3_behind l N q3 μ eq4) gX3_firstWrong_X3_behind rfl (by decide +kernel) rfl (by decide) rfl (Nat.le_of_ble_eq_true rfl) dX3_firstWrong_24 (fun H locs hW => ?_)
      refine z_astore_n (pc := 27) (i := 2) X.1 [(2, .ref (ad q4)), (0, .ref (ad 44)), (1, .int (iO x1))] hl rfl rfl (by decide) rfl dX3_firstWrong_27 (fun ls hl => ?_)
      refine z_aload_n (pc := 28) X.1 hl 0 rfl rfl dX3_firstWrong_28 ?_
      obtain ⟨q6, eq6, h⟩ := z_bind h
      refine z_callVSI (pc := 29) (n := 0) (As := []) (rest := []) X hW hl g5 (C0_isEmpty_aae02 l N q4 g5 μ eq6) gX3_firstWrong_J0_isEmpty_aae02 rfl (by decide +kernel) rfl (by decide) rfl (Nat.le_of_ble_eq_true rfl) dX3_firstWrong_29 (fun H locs hW => ?_)
      obtain ⟨g7, h⟩ := z_guard h
      refine z_if_eq (pc := 32) (tgt := 37) X.1 dX3_firstWrong_32 (by decide) g7 h (fun c15 h => ?_) (fun c15 h => ?_)
      · refine z_iinc (pc := 37) (i := 1) X.1 [(1, .int (iO (x1 + 1))), (2, .ref (ad q4)), (0, .ref (ad 44))] hl 2 rfl rfl (by decide) rfl dX3_firstWrong_37 (fun ls hl => ?_)
        refine z_iconst (pc := 40) X.1 dX3_firstWrong_40 ?_
        refine z_istore_n (pc := 41) (i := 3) X.1 [(3, .int (iO 0)), (1, .int (iO (x1 + 1))), (2, .ref (ad q4)), (0, .ref (ad 44))] hl rfl rfl (by decide) rfl dX3_firstWrong_41 (fun ls hl => ?_)
        exact CL3_firstWrong_42 X N (L3_firstWrong_11 N k) ih N (x1 + 1) q4 0 g5 μ em h _ _ ls hW (lv_sub hl [3, 1, 2, 0] rfl)
      · refine z_iload_n (pc := 35) X.1 hl 2 rfl rfl dX3_firstWrong_35 ?_
        exact z_iret (pc := 36) X hW (Option.some.inj h) em dX3_firstWrong_36
end
theorem C3_firstWrong (l : Launch) {D : va_G} {cy : ClassId × ClassId} {ad : Nat → Nat} (N : Nat)  (μ0 : mm) {res : Int} (h : M3_firstWrong N μ0 = some res) : zI l yX3_firstWrong wsX3_firstWrong 6 D cy ad [.ref (ad 44)] μ0 res μ0 := by
  refine zI.of RX3 rfl (by decide) rfl (Nat.le_of_ble_eq_true rfl) ?_
  intro p e s m args below meth c A X hW ls hl
  have hl : lv_has ls 4 [(0, .ref (ad 44))] := hl
  unfold M3_firstWrong at h
  refine z_aload_n (pc := 0) X.1 hl 0 rfl rfl dX3_firstWrong_0 ?_
  refine z_get6 (pc := 1) X.1 hW rfl iX3_firstWrong_6 1 (by decide) rfl (by decide +kernel) dX3_firstWrong_1 ?_
  obtain ⟨g1, h⟩ := z_guard h
  refine z_if_ne (pc := 4) (tgt := 9) X.1 dX3_firstWrong_4 (by decide) g1 h (fun c17 h => ?_) (fun c17 h => ?_)
  · refine z_iconst (pc := 9) X.1 dX3_firstWrong_9 ?_
    refine z_istore_n (pc := 10) (i := 1) X.1 [(1, .int (iO 0)), (0, .ref (ad 44))] hl rfl rfl (by decide) rfl dX3_firstWrong_10 (fun ls hl => ?_)
    exact CL3_firstWrong_11 X N N 0 μ0 rfl h _ _ ls hW (lv_sub hl [1, 0] rfl)
  · refine z_iconst (pc := 7) X.1 dX3_firstWrong_7 ?_
    exact z_iret (pc := 8) X hW (Option.some.inj h) rfl dX3_firstWrong_8
-- X4_outside
theorem C4_outside (l : Launch) {D : va_G} {cy : ClassId × ClassId} {ad : Nat → Nat} (N : Nat) (a0 : Int) (a1 : Int) (a2 : Int) (μ0 : mm) {res : Int} (h : M4_outside N a0 a1 a2 μ0 = some res) : zI l yX4_outside wsX4_outside 0 D cy ad [.int (iO a0), .int (iO a1), .int (iO a2)] μ0 res μ0 := by
  refine zI.of RX4 rfl (by decide) rfl (Nat.le_of_ble_eq_true rfl) ?_
  intro p e s m args below meth c A X hW ls hl
  have hl : lv_has ls 3 [(0, .int (iO a0)), (1, .int (iO a1)), (2, .int (iO a2))] := hl
  unfold M4_outside at h
  refine z_iload_n (pc := 0) X.1 hl 0 rfl rfl dX4_outside_0 ?_
  refine z_iload_n (pc := 1) X.1 hl 1 rfl rfl dX4_outside_1 ?_
  obtain ⟨g1, h⟩ := z_guard h
  refine z_icmp_ge (pc := 2) (tgt := 8) X.1 dX4_outside_2 (by decide) ⟨g1.1, g1.2⟩ h (fun c4 h => ?_) (fun c4 h => ?_)
  · refine z_iload_n (pc := 8) X.1 hl 0 rfl rfl dX4_outside_8 ?_
    refine z_iload_n (pc := 9) X.1 hl 2 rfl rfl dX4_outside_9 ?_
    obtain ⟨g2, h⟩ := z_guard h
    refine z_icmp_le (pc := 10) (tgt := 18) X.1 dX4_outside_10 (by decide) ⟨g2.1, g2.2⟩ h (fun c3 h => ?_) (fun c3 h => ?_)
    · refine z_iconst (pc := 18) X.1 dX4_outside_18 ?_
      exact z_iret (pc := 19) X hW (Option.some.inj h) rfl dX4_outside_19
    · refine z_bipush (pc := 13) X.1 dX4_outside_13 (by decide) ?_
      refine z_goto (pc := 15) (tgt := 19) X.1 dX4_outside_15 (by decide) ?_
      exact z_iret (pc := 19) X hW (Option.some.inj h) rfl dX4_outside_19
  · refine z_bipush (pc := 5) X.1 dX4_outside_5 (by decide) ?_
    exact z_iret (pc := 7) X hW (Option.some.inj h) rfl dX4_outside_7
-- X4_refused
theorem iX4_refused_7 : ∀ w ∈ wsX40, w ∈ wsX4_refused := by decide +kernel
theorem C4_refused (l : Launch) {D : va_G} {cy : ClassId × ClassId} {ad : Nat → Nat} (N : Nat) (a0 : Int) (μ : mm) {res : (Int × mm)} (h : M4_refused N a0 μ = some res) : zI l yX4_refused wsX4_refused 0 D cy ad [.ref (ad 9), .int (iO a0)] μ res.1 res.2 := by
  refine zI.of RX4 rfl (by decide) rfl (Nat.le_of_ble_eq_true rfl) ?_
  intro p e s m args below meth c A X hW ls hl
  have hl : lv_has ls 3 [(0, .ref (ad 9)), (1, .int (iO a0))] := hl
  unfold M4_refused at h
  refine z_iload_n (pc := 0) X.1 hl 1 rfl rfl dX4_refused_0 ?_
  refine z_ineg (pc := 1) X.1 dX4_refused_1 ?_
  obtain ⟨w1, ew1, h⟩ := z_bnd h
  refine z_istore_n (pc := 2) (i := 2) X.1 [(2, .int (iO w1)), (0, .ref (ad 9)), (1, .int (iO a0))] hl ew1 rfl (by decide) rfl dX4_refused_2 (fun ls hl => ?_)
  refine z_iload_n (pc := 3) X.1 hl 0 rfl rfl dX4_refused_3 ?_
  obtain ⟨g2, h⟩ := z_guard h
  refine z_if_lt (pc := 4) (tgt := 26) X.1 dX4_refused_4 (by decide) g2 h (fun c8 h => ?_) (fun c8 h => ?_)
  · refine z_iload_n (pc := 26) X.1 hl 2 rfl rfl dX4_refused_26 ?_
    exact z_iret (pc := 27) X hW (z_p1 h) (z_p2 h) dX4_refused_27
  · refine z_iload_n (pc := 7) X.1 hl 0 rfl rfl dX4_refused_7 ?_
    refine z_aload_n (pc := 8) X.1 hl 1 rfl rfl dX4_refused_8 ?_
    refine z_get7 (pc := 9) X.1 hW rfl iX4_refused_7 6 (by decide) rfl (by decide +kernel) dX4_refused_9 ?_
    refine z_alen (pc := 12) (i := 47) X.1 hW rfl dX4_refused_12 ?_
    obtain ⟨g3, h⟩ := z_guard h
    refine z_icmp_ge (pc := 13) (tgt := 26) X.1 dX4_refused_13 (by decide) ⟨g3, (by decide)⟩ h (fun c7 h => ?_) (fun c7 h => ?_)
    · refine z_iload_n (pc := 26) X.1 hl 2 rfl rfl dX4_refused_26 ?_
      exact z_iret (pc := 27) X hW (z_p1 h) (z_p2 h) dX4_refused_27
    · refine z_aload_n (pc := 16) X.1 hl 1 rfl rfl dX4_refused_16 ?_
      refine z_get7 (pc := 17) X.1 hW rfl iX4_refused_7 6 (by decide) rfl (by decide +kernel) dX4_refused_17 ?_
      refine z_iload_n (pc := 20) X.1 hl 0 rfl rfl dX4_refused_20 ?_
      refine z_dup2 (pc := 21) X.1 dX4_refused_21 rfl rfl ?_
      obtain ⟨g4, h⟩ := z_guard h
      refine z_iald (pc := 22) X.1 hW rfl ⟨g4.1, g4.2⟩ dX4_refused_22 ?_
      refine z_iconst (pc := 23) X.1 dX4_refused_23 ?_
      refine z_iadd (pc := 24) X.1 dX4_refused_24 ?_
      obtain ⟨g5, h⟩ := z_guard h
      obtain ⟨μ6, eμ6, h⟩ := z_bnd h
      refine z_iast (pc := 25) X.1 hW rfl ⟨g5.1, g5.2⟩ dX4_refused_25 (fun H locs hW => ?_)
      replace hW : zW D cy ad A s.heap μ6 H locs := by rw [eμ6]; exact hW
      refine z_iload_n (pc := 26) X.1 hl 2 rfl rfl dX4_refused_26 ?_
      exact z_iret (pc := 27) X hW (z_p1 h) (z_p2 h) dX4_refused_27
-- X4_letter
theorem iX4_letter_6 : ∀ w ∈ wsX30, w ∈ wsX4_letter := by decide +kernel
theorem iX4_letter_7 : ∀ w ∈ wsX40, w ∈ wsX4_letter := by decide +kernel
section
variable {p : Program} {l : Launch} {e : Env} {s : State} {m : MethodId} {args : Array Value} {below : List Frame} {meth : Method} {c : Code} {D : va_G} {cy : ClassId × ClassId} {ad : Nat → Nat} {A : Nat → Prop} {res : (Int × mm)}
theorem CJ4_letter_28 (X : zX p s m args meth c cX4_letter RX4 wsX4_letter 3 D cy ad (some .int) A) (N : Nat) : ∀ (x1 : Int) (x2 : Int) (μ : mm), J4_letter_28 N x1 x2 μ = some res → ∀ (H : Heap) (locs : List Loc) (ls : Array Slot), zW D cy ad A s.heap μ H locs → lv_has ls 3 [(0, .ref (ad 9)), (1, .int (iO x1)), (2, .int (iO x2))] → W p l e (rmD 1) s m args below meth c H locs 0 0 (MQ below (zQi D cy ad A res.1 res.2) args s 0 0 A) (F0 m 28 ls []) := by
  intro x1 x2 μ h H locs ls hW hl
  rw [J4_letter_28] at h
  refine z_iload_n (pc := 28) X.1 hl 2 rfl rfl dX4_letter_28 ?_
  obtain ⟨g3, h⟩ := z_guard h
  refine z_if_eq (pc := 29) (tgt := 38) X.1 dX4_letter_29 (by decide) g3 h (fun c6 h => ?_) (fun c6 h => ?_)
  · refine z_aload_n (pc := 38) X.1 hl 0 rfl rfl dX4_letter_38 ?_
    refine z_get7 (pc := 39) X.1 hW rfl iX4_letter_7 4 (by decide) rfl (by decide +kernel) dX4_letter_39 ?_
    refine z_iload_n (pc := 42) X.1 hl 1 rfl rfl dX4_letter_42 ?_
    obtain ⟨q4, eq4, h⟩ := z_bind h
    refine z_callV6V (pc := 43) (n := 1) (As := [.int (iO x1)]) (rest := []) X hW hl rfl (C3_add l N x1 μ eq4) gX4_letter_X3_add rfl (by decide +kernel) rfl (by decide) rfl (Nat.le_of_ble_eq_true rfl) dX4_letter_43 (fun H locs hW => ?_)
    refine z_aload_n (pc := 46) X.1 hl 0 rfl rfl dX4_letter_46 ?_
    refine z_get7 (pc := 47) X.1 hW rfl iX4_letter_7 4 (by decide) rfl (by decide +kernel) dX4_letter_47 ?_
    refine z_get6 (pc := 50) X.1 hW rfl iX4_letter_6 1 (by decide) rfl (by decide +kernel) dX4_letter_50 ?_
    exact z_iret (pc := 53) X hW (z_p1 h) (z_p2 h) dX4_letter_53
  · refine z_aload_n (pc := 32) X.1 hl 0 rfl rfl dX4_letter_32 ?_
    refine z_iload_n (pc := 33) X.1 hl 2 rfl rfl dX4_letter_33 ?_
    obtain ⟨q5, eq5, h⟩ := z_bind h
    refine z_callV7I (pc := 34) (n := 1) (As := [.int (iO x2)]) (rest := []) X hW hl rfl (C4_refused l N x2 μ eq5) gX4_letter_X4_refused rfl (by decide +kernel) rfl (by decide) rfl (Nat.le_of_ble_eq_true rfl) dX4_letter_34 (fun H locs hW => ?_)
    exact z_iret (pc := 37) X hW (z_p1 h) (z_p2 h) dX4_letter_37
end
theorem C4_letter (l : Launch) {D : va_G} {cy : ClassId × ClassId} {ad : Nat → Nat} (N : Nat) (a0 : Int) (μ : mm) {res : (Int × mm)} (h : M4_letter N a0 μ = some res) : zI l yX4_letter wsX4_letter 1 D cy ad [.ref (ad 9), .int (iO a0)] μ res.1 res.2 := by
  refine zI.of RX4 rfl (by decide) rfl (Nat.le_of_ble_eq_true rfl) ?_
  intro p e s m args below meth c A X hW ls hl
  have hl : lv_has ls 3 [(0, .ref (ad 9)), (1, .int (iO a0))] := hl
  unfold M4_letter at h
  refine z_iload_n (pc := 0) X.1 hl 1 rfl rfl dX4_letter_0 ?_
  refine z_iconst (pc := 1) X.1 dX4_letter_1 ?_
  refine z_sipush (pc := 2) X.1 dX4_letter_2 (by decide) ?_
  obtain ⟨q1, eq1, h⟩ := z_bind h
  refine z_callSI (pc := 5) (n := 3) (As := [.int (iO a0), .int (iO 0), .int (iO 255)]) (rest := []) X hW hl (C4_outside l N a0 0 255 μ eq1) gX4_letter_X4_outside rfl (by decide +kernel) rfl (by decide) rfl (Nat.le_of_ble_eq_true rfl) dX4_letter_5 (fun H locs hW => ?_)
  refine z_istore_n (pc := 8) (i := 2) X.1 [(2, .int (iO q1)), (0, .ref (ad 9)), (1, .int (iO a0))] hl rfl rfl (by decide) rfl dX4_letter_8 (fun ls hl => ?_)
  refine z_iload_n (pc := 9) X.1 hl 0 rfl rfl dX4_letter_9 ?_
  obtain ⟨g2, h⟩ := z_guard h
  refine z_if_ne (pc := 10) (tgt := 28) X.1 dX4_letter_10 (by decide) g2 h (fun c9 h => ?_) (fun c9 h => ?_)
  · exact CJ4_letter_28 X N a0 q1 μ h _ _ ls hW (lv_sub hl [1, 2, 0] rfl)
  · refine z_aload_n (pc := 13) X.1 hl 1 rfl rfl dX4_letter_13 ?_
    refine z_get7 (pc := 14) X.1 hW rfl iX4_letter_7 4 (by decide) rfl (by decide +kernel) dX4_letter_14 ?_
    refine z_get6 (pc := 17) X.1 hW rfl iX4_letter_6 1 (by decide) rfl (by decide +kernel) dX4_letter_17 ?_
    refine z_bipush (pc := 20) X.1 dX4_letter_20 (by decide) ?_
    obtain ⟨g7, h⟩ := z_guard h
    refine z_icmp_lt (pc := 22) (tgt := 28) X.1 dX4_letter_22 (by decide) ⟨g7, (by decide)⟩ h (fun c8 h => ?_) (fun c8 h => ?_)
    · exact CJ4_letter_28 X N a0 q1 μ h _ _ ls hW (lv_sub hl [1, 2, 0] rfl)
    · refine z_bipush (pc := 25) X.1 dX4_letter_25 (by decide) ?_
      refine z_istore_n (pc := 27) (i := 2) X.1 [(2, .int (iO (-6))), (0, .ref (ad 9)), (1, .int (iO a0))] hl rfl rfl (by decide) rfl dX4_letter_27 (fun ls hl => ?_)
      exact CJ4_letter_28 X N a0 (-6) μ h _ _ ls hW (lv_sub hl [1, 2, 0] rfl)
