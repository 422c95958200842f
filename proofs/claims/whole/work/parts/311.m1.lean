-- X1_daysGoBy
theorem iX1_daysGoBy_3 : ∀ w ∈ wsX10, w ∈ wsX1_daysGoBy := by decide +kernel
section
variable {p : Program} {l : Launch} {e : Env} {s : State} {m : MethodId} {args : Array Value} {below : List Frame} {meth : Method} {c : Code} {D : va_G} {cy : ClassId × ClassId} {ad : Nat → Nat} {A : Nat → Prop} {res : mm}
theorem CL1_daysGoBy_19 (X : zX p s m args meth c cX1_daysGoBy RX1 wsX1_daysGoBy 4 D cy ad none A) (N : Nat) (rec2 : Nat → Int → Int → mm → Option mm) (hrec2 : ∀ (r0 : Nat) (x1 : Int) (x2 : Int) (_ : kd r0 = 3) (μ : mm), rec2 r0 x1 x2 μ = some res → ∀ (H : Heap) (locs : List Loc) (ls : Array Slot), zW D cy ad A s.heap μ H locs → lv_has ls 4 [(0, .ref (ad r0)), (1, .int (iO x1)), (2, .int (iO x2))] → W p l e (rmD 2) s m args below meth c H locs 0 0 (MQ below (zQv D cy ad A res) args s 0 0 A) (F0 m 2 ls [])) : ∀ (k : Nat) (r0 : Nat) (x1 : Int) (x2 : Int) (x3 : Int) (hk_r0 : kd r0 = 3) (μ : mm), L1_daysGoBy_19 N rec2 k r0 x1 x2 x3 μ = some res → ∀ (H : Heap) (locs : List Loc) (ls : Array Slot), zW D cy ad A s.heap μ H locs → lv_has ls 4 [(0, .ref (ad r0)), (1, .int (iO x1)), (2, .int (iO x2)), (3, .int (iO x3))] → W p l e (rmD 2) s m args below meth c H locs 0 0 (MQ below (zQv D cy ad A res) args s 0 0 A) (F0 m 19 ls []) := by
  intro k
  induction k with
  | zero =>
    intro r0 x1 x2 x3 hk_r0 μ h H locs ls hW hl
    exact absurd h (by rw [L1_daysGoBy_19]; exact fun z => by cases z)
  | succ k ih =>
    intro r0 x1 x2 x3 hk_r0 μ h H locs ls hW hl
    rw [L1_daysGoBy_19] at h
    refine z_iload_n (pc := 19) X.1 hl 3 rfl rfl dX1_daysGoBy_19 ?_
    refine z_aload_n (pc := 20) X.1 hl 0 rfl rfl dX1_daysGoBy_20 ?_
    refine z_get3 (pc := 21) X.1 hW hk_r0 iX1_daysGoBy_3 2 (by decide) rfl (by decide +kernel) dX1_daysGoBy_21 ?_
    obtain ⟨g3, h⟩ := z_guard h
    refine z_icmp_ge (pc := 24) (tgt := 45) X.1 dX1_daysGoBy_24 (by decide) ⟨g3.1, g3.2⟩ h (fun c8 h => ?_) (fun c8 h => ?_)
    · refine z_iinc (pc := 45) (i := 2) X.1 [(2, .int (iO (x2 + 1))), (0, .ref (ad r0)), (1, .int (iO x1)), (3, .int (iO x3))] hl 2 rfl rfl (by decide) rfl dX1_daysGoBy_45 (fun ls hl => ?_)
      refine z_goto (pc := 48) (tgt := 2) X.1 dX1_daysGoBy_48 (by decide) ?_
      exact hrec2 r0 x1 (x2 + 1) hk_r0 μ h _ _ ls hW (lv_sub hl [1, 2, 0] rfl)
    · refine z_aload_n (pc := 27) X.1 hl 0 rfl rfl dX1_daysGoBy_27 ?_
      refine z_aload_n (pc := 28) X.1 hl 0 rfl rfl dX1_daysGoBy_28 ?_
      refine z_iload_n (pc := 29) X.1 hl 3 rfl rfl dX1_daysGoBy_29 ?_
      obtain ⟨q4, eq4, h⟩ := z_bind h
      obtain ⟨g5, h⟩ := z_guard h
      refine z_callV3R (pc := 30) (n := 1) (As := [.int (iO x3)]) (rest := [.ref (ad r0)]) X hW hl hk_r0 (C1_at l N r0 x3 hk_r0 μ eq4) gX1_daysGoBy_X1_at rfl (by decide +kernel) rfl (by decide) rfl (Nat.le_of_ble_eq_true rfl) dX1_daysGoBy_30 (fun H locs hW => ?_)
      obtain ⟨q6, eq6, h⟩ := z_bind h
      refine z_callV5I (pc := 33) (n := 0) (As := []) (rest := [.ref (ad r0)]) X hW hl g5 (C2_oneDay l N q4 g5 μ eq6) gX1_daysGoBy_X2_oneDay rfl (by decide +kernel) rfl (by decide) rfl (Nat.le_of_ble_eq_true rfl) dX1_daysGoBy_33 (fun H locs hW => ?_)
      obtain ⟨q7, eq7, h⟩ := z_bind h
      refine z_callV3V (pc := 36) (n := 1) (As := [.int (iO q6.1)]) (rest := []) X hW hl hk_r0 (C1_wear l N r0 q6.1 hk_r0 q6.2 eq7) gX1_daysGoBy_X1_wear rfl (by decide +kernel) rfl (by decide) rfl (Nat.le_of_ble_eq_true rfl) dX1_daysGoBy_36 (fun H locs hW => ?_)
      refine z_iinc (pc := 39) (i := 3) X.1 [(3, .int (iO (x3 + 1))), (0, .ref (ad r0)), (1, .int (iO x1)), (2, .int (iO x2))] hl 3 rfl rfl (by decide) rfl dX1_daysGoBy_39 (fun ls hl => ?_)
      refine z_goto (pc := 42) (tgt := 19) X.1 dX1_daysGoBy_42 (by decide) ?_
      exact ih r0 x1 x2 (x3 + 1) hk_r0 q7 h _ _ ls hW (lv_sub hl [1, 2, 3, 0] rfl)
theorem CL1_daysGoBy_2 (X : zX p s m args meth c cX1_daysGoBy RX1 wsX1_daysGoBy 4 D cy ad none A) (N : Nat) : ∀ (k : Nat) (r0 : Nat) (x1 : Int) (x2 : Int) (hk_r0 : kd r0 = 3) (μ : mm), L1_daysGoBy_2 N k r0 x1 x2 μ = some res → ∀ (H : Heap) (locs : List Loc) (ls : Array Slot), zW D cy ad A s.heap μ H locs → lv_has ls 4 [(0, .ref (ad r0)), (1, .int (iO x1)), (2, .int (iO x2))] → W p l e (rmD 2) s m args below meth c H locs 0 0 (MQ below (zQv D cy ad A res) args s 0 0 A) (F0 m 2 ls []) := by
  intro k
  induction k with
  | zero =>
    intro r0 x1 x2 hk_r0 μ h H locs ls hW hl
    exact absurd h (by rw [L1_daysGoBy_2]; exact fun z => by cases z)
  | succ k ih =>
    intro r0 x1 x2 hk_r0 μ h H locs ls hW hl
    rw [L1_daysGoBy_2] at h
    refine z_iload_n (pc := 2) X.1 hl 2 rfl rfl dX1_daysGoBy_2 ?_
    refine z_iload_n (pc := 3) X.1 hl 1 rfl rfl dX1_daysGoBy_3 ?_
    obtain ⟨g1, h⟩ := z_guard h
    refine z_icmp_ge (pc := 4) (tgt := 51) X.1 dX1_daysGoBy_4 (by decide) ⟨g1.1, g1.2⟩ h (fun c9 h => ?_) (fun c9 h => ?_)
    · exact z_vret (pc := 51) X hW (Option.some.inj h) dX1_daysGoBy_51
    · refine z_aload_n (pc := 7) X.1 hl 0 rfl rfl dX1_daysGoBy_7 ?_
      refine z_dup (pc := 8) X.1 dX1_daysGoBy_8 rfl ?_
      refine z_get3 (pc := 9) X.1 hW hk_r0 iX1_daysGoBy_3 5 (by decide) rfl (by decide +kernel) dX1_daysGoBy_9 ?_
      refine z_iconst (pc := 12) X.1 dX1_daysGoBy_12 ?_
      refine z_iadd (pc := 13) X.1 dX1_daysGoBy_13 ?_
      obtain ⟨μ2, eμ2, h⟩ := z_bnd h
      refine z_put3_5 (pc := 14) X.1 hW hk_r0 iX1_daysGoBy_3 (by decide +kernel) dX1_daysGoBy_14 (fun H locs hW => ?_)
      rw [← eμ2] at hW
      refine z_iconst (pc := 17) X.1 dX1_daysGoBy_17 ?_
      refine z_istore_n (pc := 18) (i := 3) X.1 [(3, .int (iO 0)), (0, .ref (ad r0)), (1, .int (iO x1)), (2, .int (iO x2))] hl rfl rfl (by decide) rfl dX1_daysGoBy_18 (fun ls hl => ?_)
      exact CL1_daysGoBy_19 X N (L1_daysGoBy_2 N k) ih N r0 x1 x2 0 hk_r0 μ2 h _ _ ls hW (lv_sub hl [1, 2, 3, 0] rfl)
end
theorem C1_daysGoBy (l : Launch) {D : va_G} {cy : ClassId × ClassId} {ad : Nat → Nat} (N : Nat) (o : Nat) (a0 : Int) (h_o : kd o = 3) (μ : mm) {res : mm} (h : M1_daysGoBy N o a0 μ = some res) : zV l yX1_daysGoBy wsX1_daysGoBy 2 D cy ad [.ref (ad o), .int (iO a0)] μ res := by
  refine zV.of RX1 rfl (by decide) rfl (Nat.le_of_ble_eq_true rfl) ?_
  intro p e s m args below meth c A X hW ls hl
  have hl : lv_has ls 4 [(0, .ref (ad o)), (1, .int (iO a0))] := hl
  unfold M1_daysGoBy at h
  refine z_iconst (pc := 0) X.1 dX1_daysGoBy_0 ?_
  refine z_istore_n (pc := 1) (i := 2) X.1 [(2, .int (iO 0)), (0, .ref (ad o)), (1, .int (iO a0))] hl rfl rfl (by decide) rfl dX1_daysGoBy_1 (fun ls hl => ?_)
  exact CL1_daysGoBy_2 X N N o a0 0 h_o μ h _ _ ls hW (lv_sub hl [1, 2, 0] rfl)
-- X1_daysCome
theorem iX1_daysCome_3 : ∀ w ∈ wsX10, w ∈ wsX1_daysCome := by decide +kernel
theorem C1_daysCome (l : Launch) {D : va_G} {cy : ClassId × ClassId} {ad : Nat → Nat} (N : Nat) (o : Nat) (a0 : Int) (h_o : kd o = 3) (μ : mm) {res : (Int × mm)} (h : M1_daysCome N o a0 μ = some res) : zI l yX1_daysCome wsX1_daysCome 3 D cy ad [.ref (ad o), .int (iO a0)] μ res.1 res.2 := by
  refine zI.of RX1 rfl (by decide) rfl (Nat.le_of_ble_eq_true rfl) ?_
  intro p e s m args below meth c A X hW ls hl
  have hl : lv_has ls 2 [(0, .ref (ad o)), (1, .int (iO a0))] := hl
  unfold M1_daysCome at h
  refine z_iload_n (pc := 0) X.1 hl 1 rfl rfl dX1_daysCome_0 ?_
  refine z_iconst (pc := 1) X.1 dX1_daysCome_1 ?_
  obtain ⟨g1, h⟩ := z_guard h
  refine z_icmp_lt (pc := 2) (tgt := 23) X.1 dX1_daysCome_2 (by decide) ⟨g1, (by decide)⟩ h (fun c7 h => ?_) (fun c7 h => ?_)
  · refine z_iconst (pc := 23) X.1 dX1_daysCome_23 ?_
    exact z_zret (pc := 24) X hW (by decide) (z_p1 h) (z_p2 h) dX1_daysCome_24
  · refine z_iload_n (pc := 5) X.1 hl 1 rfl rfl dX1_daysCome_5 ?_
    refine z_bipush (pc := 6) X.1 dX1_daysCome_6 (by decide) ?_
    obtain ⟨g2, h⟩ := z_guard h
    refine z_icmp_gt (pc := 8) (tgt := 23) X.1 dX1_daysCome_8 (by decide) ⟨g2, (by decide)⟩ h (fun c6 h => ?_) (fun c6 h => ?_)
    · refine z_iconst (pc := 23) X.1 dX1_daysCome_23 ?_
      exact z_zret (pc := 24) X hW (by decide) (z_p1 h) (z_p2 h) dX1_daysCome_24
    · refine z_aload_n (pc := 11) X.1 hl 0 rfl rfl dX1_daysCome_11 ?_
      refine z_get3 (pc := 12) X.1 hW h_o iX1_daysCome_3 5 (by decide) rfl (by decide +kernel) dX1_daysCome_12 ?_
      refine z_iload_n (pc := 15) X.1 hl 1 rfl rfl dX1_daysCome_15 ?_
      refine z_iadd (pc := 16) X.1 dX1_daysCome_16 ?_
      refine z_sipush (pc := 17) X.1 dX1_daysCome_17 (by decide) ?_
      obtain ⟨g3, h⟩ := z_guard h
      refine z_icmp_le (pc := 20) (tgt := 25) X.1 dX1_daysCome_20 (by decide) ⟨g3, (by decide)⟩ h (fun c5 h => ?_) (fun c5 h => ?_)
      · refine z_aload_n (pc := 25) X.1 hl 0 rfl rfl dX1_daysCome_25 ?_
        refine z_iload_n (pc := 26) X.1 hl 1 rfl rfl dX1_daysCome_26 ?_
        obtain ⟨q4, eq4, h⟩ := z_bind h
        refine z_callV3V (pc := 27) (n := 1) (As := [.int (iO a0)]) (rest := []) X hW hl h_o (C1_daysGoBy l N o a0 h_o μ eq4) gX1_daysCome_X1_daysGoBy rfl (by decide +kernel) rfl (by decide) rfl (Nat.le_of_ble_eq_true rfl) dX1_daysCome_27 (fun H locs hW => ?_)
        refine z_iconst (pc := 30) X.1 dX1_daysCome_30 ?_
        exact z_zret (pc := 31) X hW (by decide) (z_p1 h) (z_p2 h) dX1_daysCome_31
      · refine z_iconst (pc := 23) X.1 dX1_daysCome_23 ?_
        exact z_zret (pc := 24) X hW (by decide) (z_p1 h) (z_p2 h) dX1_daysCome_24
-- X2_needed
theorem iX2_needed_5 : ∀ w ∈ wsX20, w ∈ wsX2_needed := by decide +kernel
theorem C2_needed (l : Launch) {D : va_G} {cy : ClassId × ClassId} {ad : Nat → Nat} (N : Nat) (o : Nat) (h_o : kd o = 5) (μ0 : mm) {res : Int} (h : M2_needed N o μ0 = some res) : zI l yX2_needed wsX2_needed 1 D cy ad [.ref (ad o)] μ0 res μ0 := by
  refine zI.of RX2 rfl (by decide) rfl (Nat.le_of_ble_eq_true rfl) ?_
  intro p e s m args below meth c A X hW ls hl
  have hl : lv_has ls 1 [(0, .ref (ad o))] := hl
  unfold M2_needed at h
  refine z_aload_n (pc := 0) X.1 hl 0 rfl rfl dX2_needed_0 ?_
  refine z_get5 (pc := 1) X.1 hW h_o iX2_needed_5 0 (by decide) rfl (by decide +kernel) dX2_needed_1 ?_
  refine z_aload_n (pc := 4) X.1 hl 0 rfl rfl dX2_needed_4 ?_
  refine z_get5 (pc := 5) X.1 hW h_o iX2_needed_5 1 (by decide) rfl (by decide +kernel) dX2_needed_5 ?_
  obtain ⟨q1, eq1, h⟩ := z_bind h
  refine z_callSI (pc := 8) (n := 2) (As := [.int (iO (μ0 o 0)), .int (iO (μ0 o 1))]) (rest := []) X hW hl (C0_needs l N (μ0 o 0) (μ0 o 1) μ0 eq1) gX2_needed_X0_needs rfl (by decide +kernel) rfl (by decide) rfl (Nat.le_of_ble_eq_true rfl) dX2_needed_8 (fun H locs hW => ?_)
  exact z_iret (pc := 11) X hW (Option.some.inj h) rfl dX2_needed_11
-- X2_lacking
theorem iX2_lacking_5 : ∀ w ∈ wsX20, w ∈ wsX2_lacking := by decide +kernel
theorem C2_lacking (l : Launch) {D : va_G} {cy : ClassId × ClassId} {ad : Nat → Nat} (N : Nat) (o : Nat) (h_o : kd o = 5) (μ0 : mm) {res : Int} (h : M2_lacking N o μ0 = some res) : zI l yX2_lacking wsX2_lacking 2 D cy ad [.ref (ad o)] μ0 res μ0 := by
  refine zI.of RX2 rfl (by decide) rfl (Nat.le_of_ble_eq_true rfl) ?_
  intro p e s m args below meth c A X hW ls hl
  have hl : lv_has ls 1 [(0, .ref (ad o))] := hl
  unfold M2_lacking at h
  refine z_aload_n (pc := 0) X.1 hl 0 rfl rfl dX2_lacking_0 ?_
  refine z_get5 (pc := 1) X.1 hW h_o iX2_lacking_5 3 (by decide) rfl (by decide +kernel) dX2_lacking_1 ?_
  obtain ⟨g1, h⟩ := z_guard h
  refine z_if_ne (pc := 4) (tgt := 11) X.1 dX2_lacking_4 (by decide) g1 h (fun c4 h => ?_) (fun c4 h => ?_)
  · refine z_iconst (pc := 11) X.1 dX2_lacking_11 ?_
    refine z_aload_n (pc := 12) X.1 hl 0 rfl rfl dX2_lacking_12 ?_
    obtain ⟨q2, eq2, h⟩ := z_bind h
    refine z_callV5I (pc := 13) (n := 0) (As := []) (rest := [.int (iO 0)]) X hW hl h_o (C2_needed l N o h_o μ0 eq2) gX2_lacking_X2_needed rfl (by decide +kernel) rfl (by decide) rfl (Nat.le_of_ble_eq_true rfl) dX2_lacking_13 (fun H locs hW => ?_)
    refine z_aload_n (pc := 16) X.1 hl 0 rfl rfl dX2_lacking_16 ?_
    refine z_get5 (pc := 17) X.1 hW h_o iX2_lacking_5 2 (by decide) rfl (by decide +kernel) dX2_lacking_17 ?_
    refine z_isub (pc := 20) X.1 dX2_lacking_20 ?_
    obtain ⟨g3, h⟩ := z_guard h
    refine z_max (pc := 21) X hl ⟨(by decide), g3⟩ (by decide +kernel) (by decide +kernel) (by decide +kernel) (by decide +kernel) (by decide) (Nat.le_of_ble_eq_true rfl) dX2_lacking_21 ?_
    exact z_iret (pc := 24) X hW (Option.some.inj h) rfl dX2_lacking_24
  · refine z_iconst (pc := 7) X.1 dX2_lacking_7 ?_
    refine z_goto (pc := 8) (tgt := 24) X.1 dX2_lacking_8 (by decide) ?_
    exact z_iret (pc := 24) X hW (Option.some.inj h) rfl dX2_lacking_24
-- X1_issueAhead
theorem iX1_issueAhead_3 : ∀ w ∈ wsX10, w ∈ wsX1_issueAhead := by decide +kernel
theorem iX1_issueAhead_5 : ∀ w ∈ wsX20, w ∈ wsX1_issueAhead := by decide +kernel
section
variable {p : Program} {l : Launch} {e : Env} {s : State} {m : MethodId} {args : Array Value} {below : List Frame} {meth : Method} {c : Code} {D : va_G} {cy : ClassId × ClassId} {ad : Nat → Nat} {A : Nat → Prop} {res : (Int × mm)}
theorem CJ1_issueAhead_38 (X : zX p s m args meth c cX1_issueAhead RX1 wsX1_issueAhead 3 D cy ad (some .int) A) (N : Nat) (rec2 : Nat → Int → mm → Option (Int × mm)) (hrec2 : ∀ (r0 : Nat) (x1 : Int) (_ : kd r0 = 3) (μ : mm), rec2 r0 x1 μ = some res → ∀ (H : Heap) (locs : List Loc) (ls : Array Slot), zW D cy ad A s.heap μ H locs → lv_has ls 3 [(0, .ref (ad r0)), (1, .int (iO x1))] → W p l e (rmD 3) s m args below meth c H locs 0 0 (MQ below (zQi D cy ad A res.1 res.2) args s 0 0 A) (F0 m 2 ls [])) : ∀ (r0 : Nat) (x1 : Int) (hk_r0 : kd r0 = 3) (μ : mm), J1_issueAhead_38 N rec2 r0 x1 μ = some res → ∀ (H : Heap) (locs : List Loc) (ls : Array Slot), zW D cy ad A s.heap μ H locs → lv_has ls 3 [(0, .ref (ad r0)), (1, .int (iO x1))] → W p l e (rmD 3) s m args below meth c H locs 0 0 (MQ below (zQi D cy ad A res.1 res.2) args s 0 0 A) (F0 m 38 ls []) := by
  intro r0 x1 hk_r0 μ h H locs ls hW hl
  rw [J1_issueAhead_38] at h
  refine z_iinc (pc := 38) (i := 1) X.1 [(1, .int (iO (x1 + 1))), (0, .ref (ad r0))] hl 1 rfl rfl (by decide) rfl dX1_issueAhead_38 (fun ls hl => ?_)
  refine z_goto (pc := 41) (tgt := 2) X.1 dX1_issueAhead_41 (by decide) ?_
  exact hrec2 r0 (x1 + 1) hk_r0 μ h _ _ ls hW (lv_sub hl [1, 0] rfl)
theorem CL1_issueAhead_2 (X : zX p s m args meth c cX1_issueAhead RX1 wsX1_issueAhead 3 D cy ad (some .int) A) (N : Nat) : ∀ (k : Nat) (r0 : Nat) (x1 : Int) (hk_r0 : kd r0 = 3) (μ : mm), L1_issueAhead_2 N k r0 x1 μ = some res → ∀ (H : Heap) (locs : List Loc) (ls : Array Slot), zW D cy ad A s.heap μ H locs → lv_has ls 3 [(0, .ref (ad r0)), (1, .int (iO x1))] → W p l e (rmD 3) s m args below meth c H locs 0 0 (MQ below (zQi D cy ad A res.1 res.2) args s 0 0 A) (F0 m 2 ls []) := by
  intro k
  induction k with
  | zero =>
    intro r0 x1 hk_r0 μ h H locs ls hW hl
    exact absurd h (by rw [L1_issueAhead_2]; exact fun z => by cases z)
  | succ k ih =>
    intro r0 x1 hk_r0 μ h H locs ls hW hl
    rw [L1_issueAhead_2] at h
    refine z_iload_n (pc := 2) X.1 hl 1 rfl rfl dX1_issueAhead_2 ?_
    refine z_aload_n (pc := 3) X.1 hl 0 rfl rfl dX1_issueAhead_3 ?_
    refine z_get3 (pc := 4) X.1 hW hk_r0 iX1_issueAhead_3 2 (by decide) rfl (by decide +kernel) dX1_issueAhead_4 ?_
    obtain ⟨g1, h⟩ := z_guard h
    refine z_icmp_ge (pc := 7) (tgt := 44) X.1 dX1_issueAhead_7 (by decide) ⟨g1.1, g1.2⟩ h (fun c10 h => ?_) (fun c10 h => ?_)
    · refine z_bipush (pc := 44) X.1 dX1_issueAhead_44 (by decide) ?_
      exact z_iret (pc := 46) X hW (z_p1 h) (z_p2 h) dX1_issueAhead_46
    · refine z_aload_n (pc := 10) X.1 hl 0 rfl rfl dX1_issueAhead_10 ?_
      refine z_iload_n (pc := 11) X.1 hl 1 rfl rfl dX1_issueAhead_11 ?_
      obtain ⟨q2, eq2, h⟩ := z_bind h
      obtain ⟨g3, h⟩ := z_guard h
      refine z_callV3R (pc := 12) (n := 1) (As := [.int (iO x1)]) (rest := []) X hW hl hk_r0 (C1_at l N r0 x1 hk_r0 μ eq2) gX1_issueAhead_X1_at rfl (by decide +kernel) rfl (by decide) rfl (Nat.le_of_ble_eq_true rfl) dX1_issueAhead_12 (fun H locs hW => ?_)
      refine z_astore_n (pc := 15) (i := 2) X.1 [(2, .ref (ad q2)), (0, .ref (ad r0)), (1, .int (iO x1))] hl rfl rfl (by decide) rfl dX1_issueAhead_15 (fun ls hl => ?_)
      refine z_aload_n (pc := 16) X.1 hl 0 rfl rfl dX1_issueAhead_16 ?_
      refine z_get5 (pc := 17) X.1 hW g3 iX1_issueAhead_5 3 (by decide) rfl (by decide +kernel) dX1_issueAhead_17 ?_
      refine z_iconst (pc := 20) X.1 dX1_issueAhead_20 ?_
      obtain ⟨g4, h⟩ := z_guard h
      refine z_icmp_ne (pc := 21) (tgt := 38) X.1 dX1_issueAhead_21 (by decide) ⟨g4, (by decide)⟩ h (fun c9 h => ?_) (fun c9 h => ?_)
      · exact CJ1_issueAhead_38 X N (L1_issueAhead_2 N k) ih r0 x1 hk_r0 μ h _ _ ls hW (lv_sub hl [1, 2] rfl)
      · refine z_aload_n (pc := 24) X.1 hl 1 rfl rfl dX1_issueAhead_24 ?_
        refine z_iload_n (pc := 25) X.1 hl 2 rfl rfl dX1_issueAhead_25 ?_
        refine z_aload_n (pc := 26) X.1 hl 0 rfl rfl dX1_issueAhead_26 ?_
        obtain ⟨q5, eq5, h⟩ := z_bind h
        refine z_callV5I (pc := 27) (n := 0) (As := []) (rest := [.int (iO x1), .ref (ad r0)]) X hW hl g3 (C2_lacking l N q2 g3 μ eq5) gX1_issueAhead_X2_lacking rfl (by decide +kernel) rfl (by decide) rfl (Nat.le_of_ble_eq_true rfl) dX1_issueAhead_27 (fun H locs hW => ?_)
        obtain ⟨q6, eq6, h⟩ := z_bind h
        refine z_callV3I (pc := 30) (n := 2) (As := [.int (iO x1), .int (iO q5)]) (rest := []) X hW hl hk_r0 (C1_issue l N r0 x1 q5 hk_r0 μ eq6) gX1_issueAhead_X1_issue rfl (by decide +kernel) rfl (by decide) rfl (Nat.le_of_ble_eq_true rfl) dX1_issueAhead_30 (fun H locs hW => ?_)
        obtain ⟨g7, h⟩ := z_guard h
        refine z_if_ne (pc := 33) (tgt := 38) X.1 dX1_issueAhead_33 (by decide) g7 h (fun c8 h => ?_) (fun c8 h => ?_)
        · exact CJ1_issueAhead_38 X N (L1_issueAhead_2 N k) ih r0 x1 hk_r0 q6.2 h _ _ ls hW (lv_sub hl [1, 2] rfl)
        · refine z_iload_n (pc := 36) X.1 hl 2 rfl rfl dX1_issueAhead_36 ?_
          exact z_iret (pc := 37) X hW (z_p1 h) (z_p2 h) dX1_issueAhead_37
end
theorem C1_issueAhead (l : Launch) {D : va_G} {cy : ClassId × ClassId} {ad : Nat → Nat} (N : Nat) (o : Nat) (h_o : kd o = 3) (μ : mm) {res : (Int × mm)} (h : M1_issueAhead N o μ = some res) : zI l yX1_issueAhead wsX1_issueAhead 3 D cy ad [.ref (ad o)] μ res.1 res.2 := by
  refine zI.of RX1 rfl (by decide) rfl (Nat.le_of_ble_eq_true rfl) ?_
  intro p e s m args below meth c A X hW ls hl
  have hl : lv_has ls 3 [(0, .ref (ad o))] := hl
  unfold M1_issueAhead at h
  refine z_iconst (pc := 0) X.1 dX1_issueAhead_0 ?_
  refine z_istore_n (pc := 1) (i := 1) X.1 [(1, .int (iO 0)), (0, .ref (ad o))] hl rfl rfl (by decide) rfl dX1_issueAhead_1 (fun ls hl => ?_)
  exact CL1_issueAhead_2 X N N o 0 h_o μ h _ _ ls hW (lv_sub hl [1, 0] rfl)
-- X1_firstMissing
theorem iX1_firstMissing_3 : ∀ w ∈ wsX10, w ∈ wsX1_firstMissing := by decide +kernel
theorem iX1_firstMissing_5 : ∀ w ∈ wsX20, w ∈ wsX1_firstMissing := by decide +kernel
section
variable {p : Program} {l : Launch} {e : Env} {s : State} {m : MethodId} {args : Array Value} {below : List Frame} {meth : Method} {c : Code} {D : va_G} {cy : ClassId × ClassId} {ad : Nat → Nat} {A : Nat → Prop} {res : Int} {μ0 : mm}
theorem CL1_firstMissing_2 (X : zX p s m args meth c cX1_firstMissing RX1 wsX1_firstMissing 2 D cy ad (some .int) A) (N : Nat) : ∀ (k : Nat) (r0 : Nat) (x1 : Int) (hk_r0 : kd r0 = 3) (μ : mm) (_ : μ = μ0), L1_firstMissing_2 N k r0 x1 μ = some res → ∀ (H : Heap) (locs : List Loc) (ls : Array Slot), zW D cy ad A s.heap μ H locs → lv_has ls 2 [(0, .ref (ad r0)), (1, .int (iO x1))] → W p l e (rmD 1) s m args below meth c H locs 0 0 (MQ below (zQi D cy ad A res μ0) args s 0 0 A) (F0 m 2 ls []) := by
  intro k
  induction k with
  | zero =>
    intro r0 x1 hk_r0 μ em h H locs ls hW hl
    exact absurd h (by rw [L1_firstMissing_2]; exact fun z => by cases z)
  | succ k ih =>
    intro r0 x1 hk_r0 μ em h H locs ls hW hl
    rw [L1_firstMissing_2] at h
    refine z_iload_n (pc := 2) X.1 hl 1 rfl rfl dX1_firstMissing_2 ?_
    refine z_aload_n (pc := 3) X.1 hl 0 rfl rfl dX1_firstMissing_3 ?_
    refine z_get3 (pc := 4) X.1 hW hk_r0 iX1_firstMissing_3 2 (by decide) rfl (by decide +kernel) dX1_firstMissing_4 ?_
    obtain ⟨g1, h⟩ := z_guard h
    refine z_icmp_ge (pc := 7) (tgt := 29) X.1 dX1_firstMissing_7 (by decide) ⟨g1.1, g1.2⟩ h (fun c6 h => ?_) (fun c6 h => ?_)
    · refine z_bipush (pc := 29) X.1 dX1_firstMissing_29 (by decide) ?_
      exact z_iret (pc := 31) X hW (Option.some.inj h) em dX1_firstMissing_31
    · refine z_aload_n (pc := 10) X.1 hl 0 rfl rfl dX1_firstMissing_10 ?_
      refine z_iload_n (pc := 11) X.1 hl 1 rfl rfl dX1_firstMissing_11 ?_
      obtain ⟨q2, eq2, h⟩ := z_bind h
      obtain ⟨g3, h⟩ := z_guard h
      refine z_callV3R (pc := 12) (n := 1) (As := [.int (iO x1)]) (rest := []) X hW hl hk_r0 (C1_at l N r0 x1 hk_r0 μ eq2) gX1_firstMissing_X1_at rfl (by decide +kernel) rfl (by decide) rfl (Nat.le_of_ble_eq_true rfl) dX1_firstMissing_12 (fun H locs hW => ?_)
      refine z_get5 (pc := 15) X.1 hW g3 iX1_firstMissing_5 7 (by decide) rfl (by decide +kernel) dX1_firstMissing_15 ?_
      obtain ⟨g4, h⟩ := z_guard h
      refine z_if_le (pc := 18) (tgt := 23) X.1 dX1_firstMissing_18 (by decide) g4 h (fun c5 h => ?_) (fun c5 h => ?_)
      · refine z_iinc (pc := 23) (i := 1) X.1 [(1, .int (iO (x1 + 1))), (0, .ref (ad r0))] hl 1 rfl rfl (by decide) rfl dX1_firstMissing_23 (fun ls hl => ?_)
        refine z_goto (pc := 26) (tgt := 2) X.1 dX1_firstMissing_26 (by decide) ?_
        exact ih r0 (x1 + 1) hk_r0 μ em h _ _ ls hW (lv_sub hl [1, 0] rfl)
      · refine z_iload_n (pc := 21) X.1 hl 1 rfl rfl dX1_firstMissing_21 ?_
        exact z_iret (pc := 22) X hW (Option.some.inj h) em dX1_firstMissing_22
end
theorem C1_firstMissing (l : Launch) {D : va_G} {cy : ClassId × ClassId} {ad : Nat → Nat} (N : Nat) (o : Nat) (h_o : kd o = 3) (μ0 : mm) {res : Int} (h : M1_firstMissing N o μ0 = some res) : zI l yX1_firstMissing wsX1_firstMissing 1 D cy ad [.ref (ad o)] μ0 res μ0 := by
  refine zI.of RX1 rfl (by decide) rfl (Nat.le_of_ble_eq_true rfl) ?_
  intro p e s m args below meth c A X hW ls hl
  have hl : lv_has ls 2 [(0, .ref (ad o))] := hl
  unfold M1_firstMissing at h
  refine z_iconst (pc := 0) X.1 dX1_firstMissing_0 ?_
  refine z_istore_n (pc := 1) (i := 1) X.1 [(1, .int (iO 0)), (0, .ref (ad o))] hl rfl rfl (by decide) rfl dX1_firstMissing_1 (fun ls hl => ?_)
  exact CL1_firstMissing_2 X N N o 0 h_o μ0 rfl h _ _ ls hW (lv_sub hl [1, 0] rfl)
-- X1_lackAll
theorem iX1_lackAll_3 : ∀ w ∈ wsX10, w ∈ wsX1_lackAll := by decide +kernel
section
variable {p : Program} {l : Launch} {e : Env} {s : State} {m : MethodId} {args : Array Value} {below : List Frame} {meth : Method} {c : Code} {D : va_G} {cy : ClassId × ClassId} {ad : Nat → Nat} {A : Nat → Prop} {res : Int} {μ0 : mm}
theorem CJ1_lackAll_32 (X : zX p s m args meth c cX1_lackAll RX1 wsX1_lackAll 3 D cy ad (some .boolean) A) (N : Nat) (rec2 : Nat → Int → Int → mm → Option Int) (hrec2 : ∀ (r0 : Nat) (x1 : Int) (x2 : Int) (_ : kd r0 = 3) (μ : mm) (_ : μ = μ0), rec2 r0 x1 x2 μ = some res → ∀ (H : Heap) (locs : List Loc) (ls : Array Slot), zW D cy ad A s.heap μ H locs → lv_has ls 3 [(0, .ref (ad r0)), (1, .int (iO x1)), (2, .int (iO x2))] → W p l e (rmD 3) s m args below meth c H locs 0 0 (MQ below (zQi D cy ad A res μ0) args s 0 0 A) (F0 m 2 ls [])) : ∀ (r0 : Nat) (x1 : Int) (x2 : Int) (hk_r0 : kd r0 = 3) (μ : mm) (_ : μ = μ0), J1_lackAll_32 N rec2 r0 x1 x2 μ = some res → ∀ (H : Heap) (locs : List Loc) (ls : Array Slot), zW D cy ad A s.heap μ H locs → lv_has ls 3 [(0, .ref (ad r0)), (1, .int (iO x1)), (2, .int (iO x2))] → W p l e (rmD 3) s m args below meth c H locs 0 0 (MQ below (zQi D cy ad A res μ0) args s 0 0 A) (F0 m 32 ls []) := by
  intro r0 x1 x2 hk_r0 μ em h H locs ls hW hl
  rw [J1_lackAll_32] at h
  refine z_iinc (pc := 32) (i := 2) X.1 [(2, .int (iO (x2 + 1))), (0, .ref (ad r0)), (1, .int (iO x1))] hl 2 rfl rfl (by decide) rfl dX1_lackAll_32 (fun ls hl => ?_)
  refine z_goto (pc := 35) (tgt := 2) X.1 dX1_lackAll_35 (by decide) ?_
  exact hrec2 r0 x1 (x2 + 1) hk_r0 μ em h _ _ ls hW (lv_sub hl [1, 2, 0] rfl)
theorem CL1_lackAll_2 (X : zX p s m args meth c cX1_lackAll RX1 wsX1_lackAll 3 D cy ad (some .boolean) A) (N : Nat) : ∀ (k : Nat) (r0 : Nat) (x1 : Int) (x2 : Int) (hk_r0 : kd r0 = 3) (μ : mm) (_ : μ = μ0), L1_lackAll_2 N k r0 x1 x2 μ = some res → ∀ (H : Heap) (locs : List Loc) (ls : Array Slot), zW D cy ad A s.heap μ H locs → lv_has ls 3 [(0, .ref (ad r0)), (1, .int (iO x1)), (2, .int (iO x2))] → W p l e (rmD 3) s m args below meth c H locs 0 0 (MQ below (zQi D cy ad A res μ0) args s 0 0 A) (F0 m 2 ls []) := by
  intro k
  induction k with
  | zero =>
    intro r0 x1 x2 hk_r0 μ em h H locs ls hW hl
    exact absurd h (by rw [L1_lackAll_2]; exact fun z => by cases z)
  | succ k ih =>
    intro r0 x1 x2 hk_r0 μ em h H locs ls hW hl
    rw [L1_lackAll_2] at h
    refine z_iload_n (pc := 2) X.1 hl 2 rfl rfl dX1_lackAll_2 ?_
    refine z_aload_n (pc := 3) X.1 hl 0 rfl rfl dX1_lackAll_3 ?_
    refine z_get3 (pc := 4) X.1 hW hk_r0 iX1_lackAll_3 2 (by decide) rfl (by decide +kernel) dX1_lackAll_4 ?_
    obtain ⟨g1, h⟩ := z_guard h
    refine z_icmp_ge (pc := 7) (tgt := 38) X.1 dX1_lackAll_7 (by decide) ⟨g1.1, g1.2⟩ h (fun c10 h => ?_) (fun c10 h => ?_)
    · refine z_iconst (pc := 38) X.1 dX1_lackAll_38 ?_
      exact z_zret (pc := 39) X hW (by decide) (Option.some.inj h) em dX1_lackAll_39
    · refine z_iload_n (pc := 10) X.1 hl 1 rfl rfl dX1_lackAll_10 ?_
      refine z_iload_n (pc := 11) X.1 hl 2 rfl rfl dX1_lackAll_11 ?_
      obtain ⟨g2, h⟩ := z_guard h
      refine z_ishr (pc := 12) X.1 dX1_lackAll_12 ⟨g2.1, g2.2.1, g2.2.2⟩ ?_
      refine z_iconst (pc := 13) X.1 dX1_lackAll_13 ?_
      refine z_iand1 (pc := 14) X.1 dX1_lackAll_14 ?_
      refine z_iconst (pc := 15) X.1 dX1_lackAll_15 ?_
      obtain ⟨g3, h⟩ := z_guard h
      refine z_icmp_ne (pc := 16) (tgt := 32) X.1 dX1_lackAll_16 (by decide) ⟨g3, (by decide)⟩ h (fun c9 h => ?_) (fun c9 h => ?_)
      · exact CJ1_lackAll_32 X N (L1_lackAll_2 N k) ih r0 x1 x2 hk_r0 μ em h _ _ ls hW (lv_sub hl [0, 1, 2] rfl)
      · refine z_aload_n (pc := 19) X.1 hl 0 rfl rfl dX1_lackAll_19 ?_
        refine z_iload_n (pc := 20) X.1 hl 2 rfl rfl dX1_lackAll_20 ?_
        obtain ⟨q4, eq4, h⟩ := z_bind h
        obtain ⟨g5, h⟩ := z_guard h
        refine z_callV3R (pc := 21) (n := 1) (As := [.int (iO x2)]) (rest := []) X hW hl hk_r0 (C1_at l N r0 x2 hk_r0 μ eq4) gX1_lackAll_X1_at rfl (by decide +kernel) rfl (by decide) rfl (Nat.le_of_ble_eq_true rfl) dX1_lackAll_21 (fun H locs hW => ?_)
        obtain ⟨q6, eq6, h⟩ := z_bind h
        refine z_callV5I (pc := 24) (n := 0) (As := []) (rest := []) X hW hl g5 (C2_lacking l N q4 g5 μ eq6) gX1_lackAll_X2_lacking rfl (by decide +kernel) rfl (by decide) rfl (Nat.le_of_ble_eq_true rfl) dX1_lackAll_24 (fun H locs hW => ?_)
        obtain ⟨g7, h⟩ := z_guard h
        refine z_if_ne (pc := 27) (tgt := 32) X.1 dX1_lackAll_27 (by decide) g7 h (fun c8 h => ?_) (fun c8 h => ?_)
        · exact CJ1_lackAll_32 X N (L1_lackAll_2 N k) ih r0 x1 x2 hk_r0 μ em h _ _ ls hW (lv_sub hl [0, 1, 2] rfl)
        · refine z_iconst (pc := 30) X.1 dX1_lackAll_30 ?_
          exact z_zret (pc := 31) X hW (by decide) (Option.some.inj h) em dX1_lackAll_31
end
theorem C1_lackAll (l : Launch) {D : va_G} {cy : ClassId × ClassId} {ad : Nat → Nat} (N : Nat) (o : Nat) (a0 : Int) (h_o : kd o = 3) (μ0 : mm) {res : Int} (h : M1_lackAll N o a0 μ0 = some res) : zI l yX1_lackAll wsX1_lackAll 3 D cy ad [.ref (ad o), .int (iO a0)] μ0 res μ0 := by
  refine zI.of RX1 rfl (by decide) rfl (Nat.le_of_ble_eq_true rfl) ?_
  intro p e s m args below meth c A X hW ls hl
  have hl : lv_has ls 3 [(0, .ref (ad o)), (1, .int (iO a0))] := hl
  unfold M1_lackAll at h
  refine z_iconst (pc := 0) X.1 dX1_lackAll_0 ?_
  refine z_istore_n (pc := 1) (i := 2) X.1 [(2, .int (iO 0)), (0, .ref (ad o)), (1, .int (iO a0))] hl rfl rfl (by decide) rfl dX1_lackAll_1 (fun ls hl => ?_)
  exact CL1_lackAll_2 X N N o a0 0 h_o μ0 rfl h _ _ ls hW (lv_sub hl [1, 2, 0] rfl)
-- X1_lackOf
theorem iX1_lackOf_3 : ∀ w ∈ wsX10, w ∈ wsX1_lackOf := by decide +kernel
section
variable {p : Program} {l : Launch} {e : Env} {s : State} {m : MethodId} {args : Array Value} {below : List Frame} {meth : Method} {c : Code} {D : va_G} {cy : ClassId × ClassId} {ad : Nat → Nat} {A : Nat → Prop} {res : Int} {μ0 : mm}
theorem CJ1_lackOf_32 (X : zX p s m args meth c cX1_lackOf RX1 wsX1_lackOf 4 D cy ad (some .int) A) (N : Nat) (rec4 : Nat → Int → Int → Int → mm → Option Int) (hrec4 : ∀ (r0 : Nat) (x1 : Int) (x2 : Int) (x3 : Int) (_ : kd r0 = 3) (μ : mm) (_ : μ = μ0), rec4 r0 x1 x2 x3 μ = some res → ∀ (H : Heap) (locs : List Loc) (ls : Array Slot), zW D cy ad A s.heap μ H locs → lv_has ls 4 [(0, .ref (ad r0)), (1, .int (iO x1)), (2, .int (iO x2)), (3, .int (iO x3))] → W p l e (rmD 3) s m args below meth c H locs 0 0 (MQ below (zQi D cy ad A res μ0) args s 0 0 A) (F0 m 4 ls [])) : ∀ (r0 : Nat) (x1 : Int) (x2 : Int) (x3 : Int) (hk_r0 : kd r0 = 3) (μ : mm) (_ : μ = μ0), J1_lackOf_32 N rec4 r0 x1 x2 x3 μ = some res → ∀ (H : Heap) (locs : List Loc) (ls : Array Slot), zW D cy ad A s.heap μ H locs → lv_has ls 4 [(0, .ref (ad r0)), (1, .int (iO x1)), (2, .int (iO x2)), (3, .int (iO x3))] → W p l e (rmD 3) s m args below meth c H locs 0 0 (MQ below (zQi D cy ad A res μ0) args s 0 0 A) (F0 m 32 ls []) := by
  intro r0 x1 x2 x3 hk_r0 μ em h H locs ls hW hl
  rw [J1_lackOf_32] at h
  refine z_iinc (pc := 32) (i := 3) X.1 [(3, .int (iO (x3 + 1))), (0, .ref (ad r0)), (1, .int (iO x1)), (2, .int (iO x2))] hl 3 rfl rfl (by decide) rfl dX1_lackOf_32 (fun ls hl => ?_)
  refine z_goto (pc := 35) (tgt := 4) X.1 dX1_lackOf_35 (by decide) ?_
  exact hrec4 r0 x1 x2 (x3 + 1) hk_r0 μ em h _ _ ls hW (lv_sub hl [1, 2, 3, 0] rfl)
theorem CL1_lackOf_4 (X : zX p s m args meth c cX1_lackOf RX1 wsX1_lackOf 4 D cy ad (some .int) A) (N : Nat) : ∀ (k : Nat) (r0 : Nat) (x1 : Int) (x2 : Int) (x3 : Int) (hk_r0 : kd r0 = 3) (μ : mm) (_ : μ = μ0), L1_lackOf_4 N k r0 x1 x2 x3 μ = some res → ∀ (H : Heap) (locs : List Loc) (ls : Array Slot), zW D cy ad A s.heap μ H locs → lv_has ls 4 [(0, .ref (ad r0)), (1, .int (iO x1)), (2, .int (iO x2)), (3, .int (iO x3))] → W p l e (rmD 3) s m args below meth c H locs 0 0 (MQ below (zQi D cy ad A res μ0) args s 0 0 A) (F0 m 4 ls []) := by
  intro k
  induction k with
  | zero =>
    intro r0 x1 x2 x3 hk_r0 μ em h H locs ls hW hl
    exact absurd h (by rw [L1_lackOf_4]; exact fun z => by cases z)
  | succ k ih =>
    intro r0 x1 x2 x3 hk_r0 μ em h H locs ls hW hl
    rw [L1_lackOf_4] at h
    refine z_iload_n (pc := 4) X.1 hl 3 rfl rfl dX1_lackOf_4 ?_
    refine z_aload_n (pc := 5) X.1 hl 0 rfl rfl dX1_lackOf_5 ?_
    refine z_get3 (pc := 6) X.1 hW hk_r0 iX1_lackOf_3 2 (by decide) rfl (by decide +kernel) dX1_lackOf_6 ?_
    obtain ⟨g1, h⟩ := z_guard h
    refine z_icmp_ge (pc := 9) (tgt := 38) X.1 dX1_lackOf_9 (by decide) ⟨g1.1, g1.2⟩ h (fun c9 h => ?_) (fun c9 h => ?_)
    · refine z_iload_n (pc := 38) X.1 hl 2 rfl rfl dX1_lackOf_38 ?_
      exact z_iret (pc := 39) X hW (Option.some.inj h) em dX1_lackOf_39
    · refine z_iload_n (pc := 12) X.1 hl 1 rfl rfl dX1_lackOf_12 ?_
      refine z_iload_n (pc := 13) X.1 hl 3 rfl rfl dX1_lackOf_13 ?_
      obtain ⟨g2, h⟩ := z_guard h
      refine z_ishr (pc := 14) X.1 dX1_lackOf_14 ⟨g2.1, g2.2.1, g2.2.2⟩ ?_
      refine z_iconst (pc := 15) X.1 dX1_lackOf_15 ?_
      refine z_iand1 (pc := 16) X.1 dX1_lackOf_16 ?_
      refine z_iconst (pc := 17) X.1 dX1_lackOf_17 ?_
      obtain ⟨g3, h⟩ := z_guard h
      refine z_icmp_ne (pc := 18) (tgt := 32) X.1 dX1_lackOf_18 (by decide) ⟨g3, (by decide)⟩ h (fun c8 h => ?_) (fun c8 h => ?_)
      · exact CJ1_lackOf_32 X N (L1_lackOf_4 N k) ih r0 x1 x2 x3 hk_r0 μ em h _ _ ls hW (lv_sub hl [0, 1, 2, 3] rfl)
      · refine z_iload_n (pc := 21) X.1 hl 2 rfl rfl dX1_lackOf_21 ?_
        refine z_aload_n (pc := 22) X.1 hl 0 rfl rfl dX1_lackOf_22 ?_
        refine z_iload_n (pc := 23) X.1 hl 3 rfl rfl dX1_lackOf_23 ?_
        obtain ⟨q4, eq4, h⟩ := z_bind h
        obtain ⟨g5, h⟩ := z_guard h
        refine z_callV3R (pc := 24) (n := 1) (As := [.int (iO x3)]) (rest := [.int (iO x2)]) X hW hl hk_r0 (C1_at l N r0 x3 hk_r0 μ eq4) gX1_lackOf_X1_at rfl (by decide +kernel) rfl (by decide) rfl (Nat.le_of_ble_eq_true rfl) dX1_lackOf_24 (fun H locs hW => ?_)
        obtain ⟨q6, eq6, h⟩ := z_bind h
        refine z_callV5I (pc := 27) (n := 0) (As := []) (rest := [.int (iO x2)]) X hW hl g5 (C2_lacking l N q4 g5 μ eq6) gX1_lackOf_X2_lacking rfl (by decide +kernel) rfl (by decide) rfl (Nat.le_of_ble_eq_true rfl) dX1_lackOf_27 (fun H locs hW => ?_)
        refine z_iadd (pc := 30) X.1 dX1_lackOf_30 ?_
        obtain ⟨w7, ew7, h⟩ := z_bnd h
        refine z_istore_n (pc := 31) (i := 2) X.1 [(2, .int (iO w7)), (0, .ref (ad r0)), (1, .int (iO x1)), (3, .int (iO x3))] hl ew7 rfl (by decide) rfl dX1_lackOf_31 (fun ls hl => ?_)
        exact CJ1_lackOf_32 X N (L1_lackOf_4 N k) ih r0 x1 w7 x3 hk_r0 μ em h _ _ ls hW (lv_sub hl [1, 2, 0, 3] rfl)
end
theorem C1_lackOf (l : Launch) {D : va_G} {cy : ClassId × ClassId} {ad : Nat → Nat} (N : Nat) (o : Nat) (a0 : Int) (h_o : kd o = 3) (μ0 : mm) {res : Int} (h : M1_lackOf N o a0 μ0 = some res) : zI l yX1_lackOf wsX1_lackOf 3 D cy ad [.ref (ad o), .int (iO a0)] μ0 res μ0 := by
  refine zI.of RX1 rfl (by decide) rfl (Nat.le_of_ble_eq_true rfl) ?_
  intro p e s m args below meth c A X hW ls hl
  have hl : lv_has ls 4 [(0, .ref (ad o)), (1, .int (iO a0))] := hl
  unfold M1_lackOf at h
  refine z_iconst (pc := 0) X.1 dX1_lackOf_0 ?_
  refine z_istore_n (pc := 1) (i := 2) X.1 [(2, .int (iO 0)), (0, .ref (ad o)), (1, .int (iO a0))] hl rfl rfl (by decide) rfl dX1_lackOf_1 (fun ls hl => ?_)
  refine z_iconst (pc := 2) X.1 dX1_lackOf_2 ?_
  refine z_istore_n (pc := 3) (i := 3) X.1 [(3, .int (iO 0)), (2, .int (iO 0)), (0, .ref (ad o)), (1, .int (iO a0))] hl rfl rfl (by decide) rfl dX1_lackOf_3 (fun ls hl => ?_)
  exact CL1_lackOf_4 X N N o a0 0 0 h_o μ0 rfl h _ _ ls hW (lv_sub hl [2, 3, 1, 0] rfl)
-- X1_allThrough
theorem iX1_allThrough_3 : ∀ w ∈ wsX10, w ∈ wsX1_allThrough := by decide +kernel
theorem iX1_allThrough_5 : ∀ w ∈ wsX20, w ∈ wsX1_allThrough := by decide +kernel
section
variable {p : Program} {l : Launch} {e : Env} {s : State} {m : MethodId} {args : Array Value} {below : List Frame} {meth : Method} {c : Code} {D : va_G} {cy : ClassId × ClassId} {ad : Nat → Nat} {A : Nat → Prop} {res : Int} {μ0 : mm}
theorem CL1_allThrough_4 (X : zX p s m args meth c cX1_allThrough RX1 wsX1_allThrough 3 D cy ad (some .int) A) (N : Nat) : ∀ (k : Nat) (r0 : Nat) (x1 : Int) (x2 : Int) (hk_r0 : kd r0 = 3) (μ : mm) (_ : μ = μ0), L1_allThrough_4 N k r0 x1 x2 μ = some res → ∀ (H : Heap) (locs : List Loc) (ls : Array Slot), zW D cy ad A s.heap μ H locs → lv_has ls 3 [(0, .ref (ad r0)), (1, .int (iO x1)), (2, .int (iO x2))] → W p l e (rmD 1) s m args below meth c H locs 0 0 (MQ below (zQi D cy ad A res μ0) args s 0 0 A) (F0 m 4 ls []) := by
  intro k
  induction k with
  | zero =>
    intro r0 x1 x2 hk_r0 μ em h H locs ls hW hl
    exact absurd h (by rw [L1_allThrough_4]; exact fun z => by cases z)
  | succ k ih =>
    intro r0 x1 x2 hk_r0 μ em h H locs ls hW hl
    rw [L1_allThrough_4] at h
    refine z_iload_n (pc := 4) X.1 hl 2 rfl rfl dX1_allThrough_4 ?_
    refine z_aload_n (pc := 5) X.1 hl 0 rfl rfl dX1_allThrough_5 ?_
    refine z_get3 (pc := 6) X.1 hW hk_r0 iX1_allThrough_3 2 (by decide) rfl (by decide +kernel) dX1_allThrough_6 ?_
    obtain ⟨g1, h⟩ := z_guard h
    refine z_icmp_ge (pc := 9) (tgt := 29) X.1 dX1_allThrough_9 (by decide) ⟨g1.1, g1.2⟩ h (fun c5 h => ?_) (fun c5 h => ?_)
    · refine z_iload_n (pc := 29) X.1 hl 1 rfl rfl dX1_allThrough_29 ?_
      exact z_iret (pc := 30) X hW (Option.some.inj h) em dX1_allThrough_30
    · refine z_iload_n (pc := 12) X.1 hl 1 rfl rfl dX1_allThrough_12 ?_
      refine z_aload_n (pc := 13) X.1 hl 0 rfl rfl dX1_allThrough_13 ?_
      refine z_iload_n (pc := 14) X.1 hl 2 rfl rfl dX1_allThrough_14 ?_
      obtain ⟨q2, eq2, h⟩ := z_bind h
      obtain ⟨g3, h⟩ := z_guard h
      refine z_callV3R (pc := 15) (n := 1) (As := [.int (iO x2)]) (rest := [.int (iO x1)]) X hW hl hk_r0 (C1_at l N r0 x2 hk_r0 μ eq2) gX1_allThrough_X1_at rfl (by decide +kernel) rfl (by decide) rfl (Nat.le_of_ble_eq_true rfl) dX1_allThrough_15 (fun H locs hW => ?_)
      refine z_get5 (pc := 18) X.1 hW g3 iX1_allThrough_5 4 (by decide) rfl (by decide +kernel) dX1_allThrough_18 ?_
      refine z_iadd (pc := 21) X.1 dX1_allThrough_21 ?_
      obtain ⟨w4, ew4, h⟩ := z_bnd h
      refine z_istore_n (pc := 22) (i := 1) X.1 [(1, .int (iO w4)), (0, .ref (ad r0)), (2, .int (iO x2))] hl ew4 rfl (by decide) rfl dX1_allThrough_22 (fun ls hl => ?_)
      refine z_iinc (pc := 23) (i := 2) X.1 [(2, .int (iO (x2 + 1))), (1, .int (iO w4)), (0, .ref (ad r0))] hl 2 rfl rfl (by decide) rfl dX1_allThrough_23 (fun ls hl => ?_)
      refine z_goto (pc := 26) (tgt := 4) X.1 dX1_allThrough_26 (by decide) ?_
      exact ih r0 w4 (x2 + 1) hk_r0 μ em h _ _ ls hW (lv_sub hl [2, 1, 0] rfl)
end
theorem C1_allThrough (l : Launch) {D : va_G} {cy : ClassId × ClassId} {ad : Nat → Nat} (N : Nat) (o : Nat) (h_o : kd o = 3) (μ0 : mm) {res : Int} (h : M1_allThrough N o μ0 = some res) : zI l yX1_allThrough wsX1_allThrough 1 D cy ad [.ref (ad o)] μ0 res μ0 := by
  refine zI.of RX1 rfl (by decide) rfl (Nat.le_of_ble_eq_true rfl) ?_
  intro p e s m args below meth c A X hW ls hl
  have hl : lv_has ls 3 [(0, .ref (ad o))] := hl
  unfold M1_allThrough at h
  refine z_iconst (pc := 0) X.1 dX1_allThrough_0 ?_
  refine z_istore_n (pc := 1) (i := 1) X.1 [(1, .int (iO 0)), (0, .ref (ad o))] hl rfl rfl (by decide) rfl dX1_allThrough_1 (fun ls hl => ?_)
  refine z_iconst (pc := 2) X.1 dX1_allThrough_2 ?_
  refine z_istore_n (pc := 3) (i := 2) X.1 [(2, .int (iO 0)), (1, .int (iO 0)), (0, .ref (ad o))] hl rfl rfl (by decide) rfl dX1_allThrough_3 (fun ls hl => ?_)
  exact CL1_allThrough_4 X N N o 0 0 h_o μ0 rfl h _ _ ls hW (lv_sub hl [2, 1, 0] rfl)
-- X1_allShort
theorem iX1_allShort_3 : ∀ w ∈ wsX10, w ∈ wsX1_allShort := by decide +kernel
theorem iX1_allShort_5 : ∀ w ∈ wsX20, w ∈ wsX1_allShort := by decide +kernel
section
variable {p : Program} {l : Launch} {e : Env} {s : State} {m : MethodId} {args : Array Value} {below : List Frame} {meth : Method} {c : Code} {D : va_G} {cy : ClassId × ClassId} {ad : Nat → Nat} {A : Nat → Prop} {res : Int} {μ0 : mm}
theorem CL1_allShort_4 (X : zX p s m args meth c cX1_allShort RX1 wsX1_allShort 3 D cy ad (some .int) A) (N : Nat) : ∀ (k : Nat) (r0 : Nat) (x1 : Int) (x2 : Int) (hk_r0 : kd r0 = 3) (μ : mm) (_ : μ = μ0), L1_allShort_4 N k r0 x1 x2 μ = some res → ∀ (H : Heap) (locs : List Loc) (ls : Array Slot), zW D cy ad A s.heap μ H locs → lv_has ls 3 [(0, .ref (ad r0)), (1, .int (iO x1)), (2, .int (iO x2))] → W p l e (rmD 1) s m args below meth c H locs 0 0 (MQ below (zQi D cy ad A res μ0) args s 0 0 A) (F0 m 4 ls []) := by
  intro k
  induction k with
  | zero =>
    intro r0 x1 x2 hk_r0 μ em h H locs ls hW hl
    exact absurd h (by rw [L1_allShort_4]; exact fun z => by cases z)
  | succ k ih =>
    intro r0 x1 x2 hk_r0 μ em h H locs ls hW hl
    rw [L1_allShort_4] at h
    refine z_iload_n (pc := 4) X.1 hl 2 rfl rfl dX1_allShort_4 ?_
    refine z_aload_n (pc := 5) X.1 hl 0 rfl rfl dX1_allShort_5 ?_
    refine z_get3 (pc := 6) X.1 hW hk_r0 iX1_allShort_3 2 (by decide) rfl (by decide +kernel) dX1_allShort_6 ?_
    obtain ⟨g1, h⟩ := z_guard h
    refine z_icmp_ge (pc := 9) (tgt := 29) X.1 dX1_allShort_9 (by decide) ⟨g1.1, g1.2⟩ h (fun c5 h => ?_) (fun c5 h => ?_)
    · refine z_iload_n (pc := 29) X.1 hl 1 rfl rfl dX1_allShort_29 ?_
      exact z_iret (pc := 30) X hW (Option.some.inj h) em dX1_allShort_30
    · refine z_iload_n (pc := 12) X.1 hl 1 rfl rfl dX1_allShort_12 ?_
      refine z_aload_n (pc := 13) X.1 hl 0 rfl rfl dX1_allShort_13 ?_
      refine z_iload_n (pc := 14) X.1 hl 2 rfl rfl dX1_allShort_14 ?_
      obtain ⟨q2, eq2, h⟩ := z_bind h
      obtain ⟨g3, h⟩ := z_guard h
      refine z_callV3R (pc := 15) (n := 1) (As := [.int (iO x2)]) (rest := [.int (iO x1)]) X hW hl hk_r0 (C1_at l N r0 x2 hk_r0 μ eq2) gX1_allShort_X1_at rfl (by decide +kernel) rfl (by decide) rfl (Nat.le_of_ble_eq_true rfl) dX1_allShort_15 (fun H locs hW => ?_)
      refine z_get5 (pc := 18) X.1 hW g3 iX1_allShort_5 5 (by decide) rfl (by decide +kernel) dX1_allShort_18 ?_
      refine z_iadd (pc := 21) X.1 dX1_allShort_21 ?_
      obtain ⟨w4, ew4, h⟩ := z_bnd h
      refine z_istore_n (pc := 22) (i := 1) X.1 [(1, .int (iO w4)), (0, .ref (ad r0)), (2, .int (iO x2))] hl ew4 rfl (by decide) rfl dX1_allShort_22 (fun ls hl => ?_)
      refine z_iinc (pc := 23) (i := 2) X.1 [(2, .int (iO (x2 + 1))), (1, .int (iO w4)), (0, .ref (ad r0))] hl 2 rfl rfl (by decide) rfl dX1_allShort_23 (fun ls hl => ?_)
      refine z_goto (pc := 26) (tgt := 4) X.1 dX1_allShort_26 (by decide) ?_
      exact ih r0 w4 (x2 + 1) hk_r0 μ em h _ _ ls hW (lv_sub hl [2, 1, 0] rfl)
end
theorem C1_allShort (l : Launch) {D : va_G} {cy : ClassId × ClassId} {ad : Nat → Nat} (N : Nat) (o : Nat) (h_o : kd o = 3) (μ0 : mm) {res : Int} (h : M1_allShort N o μ0 = some res) : zI l yX1_allShort wsX1_allShort 1 D cy ad [.ref (ad o)] μ0 res μ0 := by
  refine zI.of RX1 rfl (by decide) rfl (Nat.le_of_ble_eq_true rfl) ?_
  intro p e s m args below meth c A X hW ls hl
  have hl : lv_has ls 3 [(0, .ref (ad o))] := hl
  unfold M1_allShort at h
  refine z_iconst (pc := 0) X.1 dX1_allShort_0 ?_
  refine z_istore_n (pc := 1) (i := 1) X.1 [(1, .int (iO 0)), (0, .ref (ad o))] hl rfl rfl (by decide) rfl dX1_allShort_1 (fun ls hl => ?_)
  refine z_iconst (pc := 2) X.1 dX1_allShort_2 ?_
  refine z_istore_n (pc := 3) (i := 2) X.1 [(2, .int (iO 0)), (1, .int (iO 0)), (0, .ref (ad o))] hl rfl rfl (by decide) rfl dX1_allShort_3 (fun ls hl => ?_)
  exact CL1_allShort_4 X N N o 0 0 h_o μ0 rfl h _ _ ls hW (lv_sub hl [2, 1, 0] rfl)
-- X1_allHas
theorem iX1_allHas_3 : ∀ w ∈ wsX10, w ∈ wsX1_allHas := by decide +kernel
theorem iX1_allHas_5 : ∀ w ∈ wsX20, w ∈ wsX1_allHas := by decide +kernel
section
variable {p : Program} {l : Launch} {e : Env} {s : State} {m : MethodId} {args : Array Value} {below : List Frame} {meth : Method} {c : Code} {D : va_G} {cy : ClassId × ClassId} {ad : Nat → Nat} {A : Nat → Prop} {res : Int} {μ0 : mm}
theorem CL1_allHas_4 (X : zX p s m args meth c cX1_allHas RX1 wsX1_allHas 3 D cy ad (some .int) A) (N : Nat) : ∀ (k : Nat) (r0 : Nat) (x1 : Int) (x2 : Int) (hk_r0 : kd r0 = 3) (μ : mm) (_ : μ = μ0), L1_allHas_4 N k r0 x1 x2 μ = some res → ∀ (H : Heap) (locs : List Loc) (ls : Array Slot), zW D cy ad A s.heap μ H locs → lv_has ls 3 [(0, .ref (ad r0)), (1, .int (iO x1)), (2, .int (iO x2))] → W p l e (rmD 1) s m args below meth c H locs 0 0 (MQ below (zQi D cy ad A res μ0) args s 0 0 A) (F0 m 4 ls []) := by
  intro k
  induction k with
  | zero =>
    intro r0 x1 x2 hk_r0 μ em h H locs ls hW hl
    exact absurd h (by rw [L1_allHas_4]; exact fun z => by cases z)
  | succ k ih =>
    intro r0 x1 x2 hk_r0 μ em h H locs ls hW hl
    rw [L1_allHas_4] at h
    refine z_iload_n (pc := 4) X.1 hl 2 rfl rfl dX1_allHas_4 ?_
    refine z_aload_n (pc := 5) X.1 hl 0 rfl rfl dX1_allHas_5 ?_
    refine z_get3 (pc := 6) X.1 hW hk_r0 iX1_allHas_3 2 (by decide) rfl (by decide +kernel) dX1_allHas_6 ?_
    obtain ⟨g1, h⟩ := z_guard h
    refine z_icmp_ge (pc := 9) (tgt := 29) X.1 dX1_allHas_9 (by decide) ⟨g1.1, g1.2⟩ h (fun c5 h => ?_) (fun c5 h => ?_)
    · refine z_iload_n (pc := 29) X.1 hl 1 rfl rfl dX1_allHas_29 ?_
      exact z_iret (pc := 30) X hW (Option.some.inj h) em dX1_allHas_30
    · refine z_iload_n (pc := 12) X.1 hl 1 rfl rfl dX1_allHas_12 ?_
      refine z_aload_n (pc := 13) X.1 hl 0 rfl rfl dX1_allHas_13 ?_
      refine z_iload_n (pc := 14) X.1 hl 2 rfl rfl dX1_allHas_14 ?_
      obtain ⟨q2, eq2, h⟩ := z_bind h
      obtain ⟨g3, h⟩ := z_guard h
      refine z_callV3R (pc := 15) (n := 1) (As := [.int (iO x2)]) (rest := [.int (iO x1)]) X hW hl hk_r0 (C1_at l N r0 x2 hk_r0 μ eq2) gX1_allHas_X1_at rfl (by decide +kernel) rfl (by decide) rfl (Nat.le_of_ble_eq_true rfl) dX1_allHas_15 (fun H locs hW => ?_)
      refine z_get5 (pc := 18) X.1 hW g3 iX1_allHas_5 2 (by decide) rfl (by decide +kernel) dX1_allHas_18 ?_
      refine z_iadd (pc := 21) X.1 dX1_allHas_21 ?_
      obtain ⟨w4, ew4, h⟩ := z_bnd h
      refine z_istore_n (pc := 22) (i := 1) X.1 [(1, .int (iO w4)), (0, .ref (ad r0)), (2, .int (iO x2))] hl ew4 rfl (by decide) rfl dX1_allHas_22 (fun ls hl => ?_)
      refine z_iinc (pc := 23) (i := 2) X.1 [(2, .int (iO (x2 + 1))), (1, .int (iO w4)), (0, .ref (ad r0))] hl 2 rfl rfl (by decide) rfl dX1_allHas_23 (fun ls hl => ?_)
      refine z_goto (pc := 26) (tgt := 4) X.1 dX1_allHas_26 (by decide) ?_
      exact ih r0 w4 (x2 + 1) hk_r0 μ em h _ _ ls hW (lv_sub hl [2, 1, 0] rfl)
end
theorem C1_allHas (l : Launch) {D : va_G} {cy : ClassId × ClassId} {ad : Nat → Nat} (N : Nat) (o : Nat) (h_o : kd o = 3) (μ0 : mm) {res : Int} (h : M1_allHas N o μ0 = some res) : zI l yX1_allHas wsX1_allHas 1 D cy ad [.ref (ad o)] μ0 res μ0 := by
  refine zI.of RX1 rfl (by decide) rfl (Nat.le_of_ble_eq_true rfl) ?_
  intro p e s m args below meth c A X hW ls hl
  have hl : lv_has ls 3 [(0, .ref (ad o))] := hl
  unfold M1_allHas at h
  refine z_iconst (pc := 0) X.1 dX1_allHas_0 ?_
  refine z_istore_n (pc := 1) (i := 1) X.1 [(1, .int (iO 0)), (0, .ref (ad o))] hl rfl rfl (by decide) rfl dX1_allHas_1 (fun ls hl => ?_)
  refine z_iconst (pc := 2) X.1 dX1_allHas_2 ?_
  refine z_istore_n (pc := 3) (i := 2) X.1 [(2, .int (iO 0)), (1, .int (iO 0)), (0, .ref (ad o))] hl rfl rfl (by decide) rfl dX1_allHas_3 (fun ls hl => ?_)
  exact CL1_allHas_4 X N N o 0 0 h_o μ0 rfl h _ _ ls hW (lv_sub hl [2, 1, 0] rfl)
-- X1_allWithMatter
theorem iX1_allWithMatter_3 : ∀ w ∈ wsX10, w ∈ wsX1_allWithMatter := by decide +kernel
theorem iX1_allWithMatter_5 : ∀ w ∈ wsX20, w ∈ wsX1_allWithMatter := by decide +kernel
section
variable {p : Program} {l : Launch} {e : Env} {s : State} {m : MethodId} {args : Array Value} {below : List Frame} {meth : Method} {c : Code} {D : va_G} {cy : ClassId × ClassId} {ad : Nat → Nat} {A : Nat → Prop} {res : Int} {μ0 : mm}
theorem CJ1_allWithMatter_26 (X : zX p s m args meth c cX1_allWithMatter RX1 wsX1_allWithMatter 3 D cy ad (some .int) A) (N : Nat) (rec4 : Nat → Int → Int → mm → Option Int) (hrec4 : ∀ (r0 : Nat) (x1 : Int) (x2 : Int) (_ : kd r0 = 3) (μ : mm) (_ : μ = μ0), rec4 r0 x1 x2 μ = some res → ∀ (H : Heap) (locs : List Loc) (ls : Array Slot), zW D cy ad A s.heap μ H locs → lv_has ls 3 [(0, .ref (ad r0)), (1, .int (iO x1)), (2, .int (iO x2))] → W p l e (rmD 1) s m args below meth c H locs 0 0 (MQ below (zQi D cy ad A res μ0) args s 0 0 A) (F0 m 4 ls [])) : ∀ (r0 : Nat) (x1 : Int) (x2 : Int) (hk_r0 : kd r0 = 3) (μ : mm) (_ : μ = μ0), J1_allWithMatter_26 N rec4 r0 x1 x2 μ = some res → ∀ (H : Heap) (locs : List Loc) (ls : Array Slot), zW D cy ad A s.heap μ H locs → lv_has ls 3 [(0, .ref (ad r0)), (1, .int (iO x1)), (2, .int (iO x2))] → W p l e (rmD 1) s m args below meth c H locs 0 0 (MQ below (zQi D cy ad A res μ0) args s 0 0 A) (F0 m 26 ls []) := by
  intro r0 x1 x2 hk_r0 μ em h H locs ls hW hl
  rw [J1_allWithMatter_26] at h
  refine z_iinc (pc := 26) (i := 2) X.1 [(2, .int (iO (x2 + 1))), (0, .ref (ad r0)), (1, .int (iO x1))] hl 2 rfl rfl (by decide) rfl dX1_allWithMatter_26 (fun ls hl => ?_)
  refine z_goto (pc := 29) (tgt := 4) X.1 dX1_allWithMatter_29 (by decide) ?_
  exact hrec4 r0 x1 (x2 + 1) hk_r0 μ em h _ _ ls hW (lv_sub hl [1, 2, 0] rfl)
theorem CL1_allWithMatter_4 (X : zX p s m args meth c cX1_allWithMatter RX1 wsX1_allWithMatter 3 D cy ad (some .int) A) (N : Nat) : ∀ (k : Nat) (r0 : Nat) (x1 : Int) (x2 : Int) (hk_r0 : kd r0 = 3) (μ : mm) (_ : μ = μ0), L1_allWithMatter_4 N k r0 x1 x2 μ = some res → ∀ (H : Heap) (locs : List Loc) (ls : Array Slot), zW D cy ad A s.heap μ H locs → lv_has ls 3 [(0, .ref (ad r0)), (1, .int (iO x1)), (2, .int (iO x2))] → W p l e (rmD 1) s m args below meth c H locs 0 0 (MQ below (zQi D cy ad A res μ0) args s 0 0 A) (F0 m 4 ls []) := by
  intro k
  induction k with
  | zero =>
    intro r0 x1 x2 hk_r0 μ em h H locs ls hW hl
    exact absurd h (by rw [L1_allWithMatter_4]; exact fun z => by cases z)
  | succ k ih =>
    intro r0 x1 x2 hk_r0 μ em h H locs ls hW hl
    rw [L1_allWithMatter_4] at h
    refine z_iload_n (pc := 4) X.1 hl 2 rfl rfl dX1_allWithMatter_4 ?_
    refine z_aload_n (pc := 5) X.1 hl 0 rfl rfl dX1_allWithMatter_5 ?_
    refine z_get3 (pc := 6) X.1 hW hk_r0 iX1_allWithMatter_3 2 (by decide) rfl (by decide +kernel) dX1_allWithMatter_6 ?_
    obtain ⟨g1, h⟩ := z_guard h
    refine z_icmp_ge (pc := 9) (tgt := 32) X.1 dX1_allWithMatter_9 (by decide) ⟨g1.1, g1.2⟩ h (fun c6 h => ?_) (fun c6 h => ?_)
    · refine z_iload_n (pc := 32) X.1 hl 1 rfl rfl dX1_allWithMatter_32 ?_
      exact z_iret (pc := 33) X hW (Option.some.inj h) em dX1_allWithMatter_33
    · refine z_aload_n (pc := 12) X.1 hl 0 rfl rfl dX1_allWithMatter_12 ?_
      refine z_iload_n (pc := 13) X.1 hl 2 rfl rfl dX1_allWithMatter_13 ?_
      obtain ⟨q2, eq2, h⟩ := z_bind h
      obtain ⟨g3, h⟩ := z_guard h
      refine z_callV3R (pc := 14) (n := 1) (As := [.int (iO x2)]) (rest := []) X hW hl hk_r0 (C1_at l N r0 x2 hk_r0 μ eq2) gX1_allWithMatter_X1_at rfl (by decide +kernel) rfl (by decide) rfl (Nat.le_of_ble_eq_true rfl) dX1_allWithMatter_14 (fun H locs hW => ?_)
      refine z_get5 (pc := 17) X.1 hW g3 iX1_allWithMatter_5 3 (by decide) rfl (by decide +kernel) dX1_allWithMatter_17 ?_
      obtain ⟨g4, h⟩ := z_guard h
      refine z_if_le (pc := 20) (tgt := 26) X.1 dX1_allWithMatter_20 (by decide) g4 h (fun c5 h => ?_) (fun c5 h => ?_)
      · exact CJ1_allWithMatter_26 X N (L1_allWithMatter_4 N k) ih r0 x1 x2 hk_r0 μ em h _ _ ls hW (lv_sub hl [0, 1, 2] rfl)
      · refine z_iinc (pc := 23) (i := 1) X.1 [(1, .int (iO (x1 + 1))), (0, .ref (ad r0)), (2, .int (iO x2))] hl 1 rfl rfl (by decide) rfl dX1_allWithMatter_23 (fun ls hl => ?_)
        exact CJ1_allWithMatter_26 X N (L1_allWithMatter_4 N k) ih r0 (x1 + 1) x2 hk_r0 μ em h _ _ ls hW (lv_sub hl [1, 0, 2] rfl)
end
theorem C1_allWithMatter (l : Launch) {D : va_G} {cy : ClassId × ClassId} {ad : Nat → Nat} (N : Nat) (o : Nat) (h_o : kd o = 3) (μ0 : mm) {res : Int} (h : M1_allWithMatter N o μ0 = some res) : zI l yX1_allWithMatter wsX1_allWithMatter 1 D cy ad [.ref (ad o)] μ0 res μ0 := by
  refine zI.of RX1 rfl (by decide) rfl (Nat.le_of_ble_eq_true rfl) ?_
  intro p e s m args below meth c A X hW ls hl
  have hl : lv_has ls 3 [(0, .ref (ad o))] := hl
  unfold M1_allWithMatter at h
  refine z_iconst (pc := 0) X.1 dX1_allWithMatter_0 ?_
  refine z_istore_n (pc := 1) (i := 1) X.1 [(1, .int (iO 0)), (0, .ref (ad o))] hl rfl rfl (by decide) rfl dX1_allWithMatter_1 (fun ls hl => ?_)
  refine z_iconst (pc := 2) X.1 dX1_allWithMatter_2 ?_
  refine z_istore_n (pc := 3) (i := 2) X.1 [(2, .int (iO 0)), (1, .int (iO 0)), (0, .ref (ad o))] hl rfl rfl (by decide) rfl dX1_allWithMatter_3 (fun ls hl => ?_)
  exact CL1_allWithMatter_4 X N N o 0 0 h_o μ0 rfl h _ _ ls hW (lv_sub hl [2, 1, 0] rfl)
-- X3_add
theorem iX3_add_6 : ∀ w ∈ wsX30, w ∈ wsX3_add := by decide +kernel
theorem C3_add (l : Launch) {D : va_G} {cy : ClassId × ClassId} {ad : Nat → Nat} (N : Nat) (a0 : Int) (μ : mm) {res : mm} (h : M3_add N a0 μ = some res) : zV l yX3_add wsX3_add 0 D cy ad [.ref (ad 44), .int (iO a0)] μ res := by
  refine zV.of RX3 rfl (by decide) rfl (Nat.le_of_ble_eq_true rfl) ?_
  intro p e s m args below meth c A X hW ls hl
  have hl : lv_has ls 2 [(0, .ref (ad 44)), (1, .int (iO a0))] := hl
  unfold M3_add at h
  refine z_aload_n (pc := 0) X.1 hl 0 rfl rfl dX3_add_0 ?_
  refine z_get6 (pc := 1) X.1 hW rfl iX3_add_6 1 (by decide) rfl (by decide +kernel) dX3_add_1 ?_
  obtain ⟨g1, h⟩ := z_guard h
  refine z_if_lt (pc := 4) (tgt := 36) X.1 dX3_add_4 (by decide) g1 h (fun c7 h => ?_) (fun c7 h => ?_)
  · exact z_vret (pc := 36) X hW (Option.some.inj h) dX3_add_36
  · refine z_aload_n (pc := 7) X.1 hl 0 rfl rfl dX3_add_7 ?_
    refine z_get6 (pc := 8) X.1 hW rfl iX3_add_6 1 (by decide) rfl (by decide +kernel) dX3_add_8 ?_
    refine z_aload_n (pc := 11) X.1 hl 0 rfl rfl dX3_add_11 ?_
    refine z_get6 (pc := 12) X.1 hW rfl iX3_add_6 0 (by decide) rfl (by decide +kernel) dX3_add_12 ?_
    refine z_alen (pc := 15) (i := 45) X.1 hW rfl dX3_add_15 ?_
    obtain ⟨g2, h⟩ := z_guard h
    refine z_icmp_ge (pc := 16) (tgt := 36) X.1 dX3_add_16 (by decide) ⟨g2, (by decide)⟩ h (fun c6 h => ?_) (fun c6 h => ?_)
    · exact z_vret (pc := 36) X hW (Option.some.inj h) dX3_add_36
    · refine z_aload_n (pc := 19) X.1 hl 0 rfl rfl dX3_add_19 ?_
      refine z_get6 (pc := 20) X.1 hW rfl iX3_add_6 0 (by decide) rfl (by decide +kernel) dX3_add_20 ?_
      refine z_aload_n (pc := 23) X.1 hl 0 rfl rfl dX3_add_23 ?_
      refine z_dup (pc := 24) X.1 dX3_add_24 rfl ?_
      refine z_get6 (pc := 25) X.1 hW rfl iX3_add_6 1 (by decide) rfl (by decide +kernel) dX3_add_25 ?_
      refine z_dup_x1 (pc := 28) X.1 dX3_add_28 rfl rfl ?_
      refine z_iconst (pc := 29) X.1 dX3_add_29 ?_
      refine z_iadd (pc := 30) X.1 dX3_add_30 ?_
      obtain ⟨μ3, eμ3, h⟩ := z_bnd h
      refine z_put6_1 (pc := 31) X.1 hW rfl iX3_add_6 (by decide +kernel) dX3_add_31 (fun H locs hW => ?_)
      rw [← eμ3] at hW
      refine z_iload_n (pc := 34) X.1 hl 1 rfl rfl dX3_add_34 ?_
      obtain ⟨g4, h⟩ := z_guard h
      obtain ⟨μ5, eμ5, h⟩ := z_bnd h
      refine z_iast (pc := 35) X.1 hW rfl ⟨g4.1, g4.2⟩ dX3_add_35 (fun H locs hW => ?_)
      replace hW : zW D cy ad A s.heap μ5 H locs := by rw [eμ5]; exact hW
      exact z_vret (pc := 36) X hW (Option.some.inj h) dX3_add_36
-- X3_letterAt
theorem iX3_letterAt_6 : ∀ w ∈ wsX30, w ∈ wsX3_letterAt := by decide +kernel
theorem C3_letterAt (l : Launch) {D : va_G} {cy : ClassId × ClassId} {ad : Nat → Nat} (N : Nat) (a0 : Int) (μ0 : mm) {res : Int} (h : M3_letterAt N a0 μ0 = some res) : zI l yX3_letterAt wsX3_letterAt 0 D cy ad [.ref (ad 44), .int (iO a0)] μ0 res μ0 := by
  refine zI.of RX3 rfl (by decide) rfl (Nat.le_of_ble_eq_true rfl) ?_
  intro p e s m args below meth c A X hW ls hl
  have hl : lv_has ls 2 [(0, .ref (ad 44)), (1, .int (iO a0))] := hl
  unfold M3_letterAt at h
  refine z_iload_n (pc := 0) X.1 hl 1 rfl rfl dX3_letterAt_0 ?_
  obtain ⟨g1, h⟩ := z_guard h
  refine z_if_lt (pc := 1) (tgt := 30) X.1 dX3_letterAt_1 (by decide) g1 h (fun c7 h => ?_) (fun c7 h => ?_)
  · refine z_iconst (pc := 30) X.1 dX3_letterAt_30 ?_
    exact z_iret (pc := 31) X hW (Option.some.inj h) rfl dX3_letterAt_31
  · refine z_iload_n (pc := 4) X.1 hl 1 rfl rfl dX3_letterAt_4 ?_
    refine z_aload_n (pc := 5) X.1 hl 0 rfl rfl dX3_letterAt_5 ?_
    refine z_get6 (pc := 6) X.1 hW rfl iX3_letterAt_6 1 (by decide) rfl (by decide +kernel) dX3_letterAt_6 ?_
    obtain ⟨g2, h⟩ := z_guard h
    refine z_icmp_ge (pc := 9) (tgt := 30) X.1 dX3_letterAt_9 (by decide) ⟨g2.1, g2.2⟩ h (fun c6 h => ?_) (fun c6 h => ?_)
    · refine z_iconst (pc := 30) X.1 dX3_letterAt_30 ?_
      exact z_iret (pc := 31) X hW (Option.some.inj h) rfl dX3_letterAt_31
    · refine z_iload_n (pc := 12) X.1 hl 1 rfl rfl dX3_letterAt_12 ?_
      refine z_aload_n (pc := 13) X.1 hl 0 rfl rfl dX3_letterAt_13 ?_
      refine z_get6 (pc := 14) X.1 hW rfl iX3_letterAt_6 0 (by decide) rfl (by decide +kernel) dX3_letterAt_14 ?_
      refine z_alen (pc := 17) (i := 45) X.1 hW rfl dX3_letterAt_17 ?_
      obtain ⟨g3, h⟩ := z_guard h
      refine z_icmp_ge (pc := 18) (tgt := 30) X.1 dX3_letterAt_18 (by decide) ⟨g3, (by decide)⟩ h (fun c5 h => ?_) (fun c5 h => ?_)
      · refine z_iconst (pc := 30) X.1 dX3_letterAt_30 ?_
        exact z_iret (pc := 31) X hW (Option.some.inj h) rfl dX3_letterAt_31
      · refine z_aload_n (pc := 21) X.1 hl 0 rfl rfl dX3_letterAt_21 ?_
        refine z_get6 (pc := 22) X.1 hW rfl iX3_letterAt_6 0 (by decide) rfl (by decide +kernel) dX3_letterAt_22 ?_
        refine z_iload_n (pc := 25) X.1 hl 1 rfl rfl dX3_letterAt_25 ?_
        obtain ⟨g4, h⟩ := z_guard h
        refine z_iald (pc := 26) X.1 hW rfl ⟨g4.1, g4.2⟩ dX3_letterAt_26 ?_
        refine z_goto (pc := 27) (tgt := 31) X.1 dX3_letterAt_27 (by decide) ?_
        exact z_iret (pc := 31) X hW (Option.some.inj h) rfl dX3_letterAt_31
-- J0_isLatin1_aae02
theorem C0_isLatin1_aae02 (l : Launch) {D : va_G} {cy : ClassId × ClassId} {ad : Nat → Nat} (N : Nat) (o : Nat) (h_o : 60 ≤ o ∧ o < 66) (μ0 : mm) {res : Int} (h : M0_isLatin1_aae02 N o μ0 = some res) : zI l yJ0_isLatin1_aae02 wsJ0_isLatin1_aae02 0 D cy ad [.ref (ad o)] μ0 res μ0 := by
  refine zI.of RJ0 rfl (by decide) rfl (Nat.le_of_ble_eq_true rfl) ?_
  intro p e s m args below meth c A X hW ls hl
  have hl : lv_has ls 1 [(0, .ref (ad o))] := hl
  unfold M0_isLatin1_aae02 at h
  refine z_getsC (pc := 0) X hW (by decide +kernel) dJ0_isLatin1_aae02_0 ?_
  refine z_if_eq (pc := 3) (tgt := 17) X.1 dJ0_isLatin1_aae02_3 (by decide) (by decide) h (fun c2 h => ?_) (fun c2 h => ?_)
  · refine z_iconst (pc := 17) X.1 dJ0_isLatin1_aae02_17 ?_
    exact z_zret (pc := 18) X hW (by decide) (Option.some.inj h) rfl dJ0_isLatin1_aae02_18
  · refine z_aload_n (pc := 6) X.1 hl 0 rfl rfl dJ0_isLatin1_aae02_6 ?_
    refine z_sgetC (pc := 7) X hW h_o (by decide +kernel) dJ0_isLatin1_aae02_7 ?_
    refine z_if_ne (pc := 10) (tgt := 17) X.1 dJ0_isLatin1_aae02_10 (by decide) (by decide) h (fun c1 h => ?_) (fun c1 h => ?_)
    · refine z_iconst (pc := 17) X.1 dJ0_isLatin1_aae02_17 ?_
      exact z_zret (pc := 18) X hW (by decide) (Option.some.inj h) rfl dJ0_isLatin1_aae02_18
    · refine z_iconst (pc := 13) X.1 dJ0_isLatin1_aae02_13 ?_
      refine z_goto (pc := 14) (tgt := 18) X.1 dJ0_isLatin1_aae02_14 (by decide) ?_
      exact z_zret (pc := 18) X hW (by decide) (Option.some.inj h) rfl dJ0_isLatin1_aae02_18
-- J0_coder_7d493
theorem C0_coder_7d493 (l : Launch) {D : va_G} {cy : ClassId × ClassId} {ad : Nat → Nat} (N : Nat) (o : Nat) (h_o : 60 ≤ o ∧ o < 66) (μ0 : mm) {res : Int} (h : M0_coder_7d493 N o μ0 = some res) : zI l yJ0_coder_7d493 wsJ0_coder_7d493 0 D cy ad [.ref (ad o)] μ0 res μ0 := by
  refine zI.of RJ0 rfl (by decide) rfl (Nat.le_of_ble_eq_true rfl) ?_
  intro p e s m args below meth c A X hW ls hl
  have hl : lv_has ls 1 [(0, .ref (ad o))] := hl
  unfold M0_coder_7d493 at h
  refine z_getsC (pc := 0) X hW (by decide +kernel) dJ0_coder_7d493_0 ?_
  refine z_if_eq (pc := 3) (tgt := 13) X.1 dJ0_coder_7d493_3 (by decide) (by decide) h (fun c1 h => ?_) (fun c1 h => ?_)
  · refine z_iconst (pc := 13) X.1 dJ0_coder_7d493_13 ?_
    exact z_bret (pc := 14) X hW (by decide) (Option.some.inj h) rfl dJ0_coder_7d493_14
  · refine z_aload_n (pc := 6) X.1 hl 0 rfl rfl dJ0_coder_7d493_6 ?_
    refine z_sgetC (pc := 7) X hW h_o (by decide +kernel) dJ0_coder_7d493_7 ?_
    refine z_goto (pc := 10) (tgt := 14) X.1 dJ0_coder_7d493_10 (by decide) ?_
    exact z_bret (pc := 14) X hW (by decide) (Option.some.inj h) rfl dJ0_coder_7d493_14
-- J0_length_8abf5
theorem C0_length_8abf5 (l : Launch) {D : va_G} {cy : ClassId × ClassId} {ad : Nat → Nat} (N : Nat) (o : Nat) (h_o : 60 ≤ o ∧ o < 66) (μ0 : mm) {res : Int} (h : M0_length_8abf5 N o μ0 = some res) : zI l yJ0_length_8abf5 wsJ0_length_8abf5 1 D cy ad [.ref (ad o)] μ0 res μ0 := by
  refine zI.of RJ0 rfl (by decide) rfl (Nat.le_of_ble_eq_true rfl) ?_
  intro p e s m args below meth c A X hW ls hl
  have hl : lv_has ls 1 [(0, .ref (ad o))] := hl
  unfold M0_length_8abf5 at h
  refine z_aload_n (pc := 0) X.1 hl 0 rfl rfl dJ0_length_8abf5_0 ?_
  refine z_sgetV (pc := 1) X hW h_o (by decide +kernel) dJ0_length_8abf5_1 ?_
  refine z_blen (pc := 4) X hW (z_s20 h_o) dJ0_length_8abf5_4 ?_
  refine z_aload_n (pc := 5) X.1 hl 0 rfl rfl dJ0_length_8abf5_5 ?_
  obtain ⟨q1, eq1, h⟩ := z_bind h
  refine z_callVSI (pc := 6) (n := 0) (As := []) (rest := [.int (iO (blen (o + 20)))]) X hW hl h_o (C0_coder_7d493 l N o h_o μ0 eq1) gJ0_length_8abf5_J0_coder_7d493 rfl (by decide +kernel) rfl (by decide) rfl (Nat.le_of_ble_eq_true rfl) dJ0_length_8abf5_6 (fun H locs hW => ?_)
  obtain ⟨g2, h⟩ := z_guard h
  refine z_ishr (pc := 9) X.1 dJ0_length_8abf5_9 ⟨g2.1, g2.2.1, g2.2.2⟩ ?_
  exact z_iret (pc := 10) X hW (Option.some.inj h) rfl dJ0_length_8abf5_10
-- J1_canEncode_9a6ad
theorem C1_canEncode_9a6ad (l : Launch) {D : va_G} {cy : ClassId × ClassId} {ad : Nat → Nat} (N : Nat) (a0 : Int) (μ0 : mm) {res : Int} (h : M1_canEncode_9a6ad N a0 μ0 = some res) : zI l yJ1_canEncode_9a6ad wsJ1_canEncode_9a6ad 0 D cy ad [.int (iO a0)] μ0 res μ0 := by
  refine zI.of RJ1 rfl (by decide) rfl (Nat.le_of_ble_eq_true rfl) ?_
  intro p e s m args below meth c A X hW ls hl
  have hl : lv_has ls 1 [(0, .int (iO a0))] := hl
  unfold M1_canEncode_9a6ad at h
  refine z_iload_n (pc := 0) X.1 hl 0 rfl rfl dJ1_canEncode_9a6ad_0 ?_
  obtain ⟨g1, h⟩ := z_guard h
  refine z_if_lt (pc := 1) (tgt := 15) X.1 dJ1_canEncode_9a6ad_1 (by decide) g1 h (fun c4 h => ?_) (fun c4 h => ?_)
  · refine z_iconst (pc := 15) X.1 dJ1_canEncode_9a6ad_15 ?_
    exact z_zret (pc := 16) X hW (by decide) (Option.some.inj h) rfl dJ1_canEncode_9a6ad_16
  · refine z_iload_n (pc := 4) X.1 hl 0 rfl rfl dJ1_canEncode_9a6ad_4 ?_
    refine z_sipush (pc := 5) X.1 dJ1_canEncode_9a6ad_5 (by decide) ?_
    obtain ⟨g2, h⟩ := z_guard h
    refine z_icmp_gt (pc := 8) (tgt := 15) X.1 dJ1_canEncode_9a6ad_8 (by decide) ⟨g2, (by decide)⟩ h (fun c3 h => ?_) (fun c3 h => ?_)
    · refine z_iconst (pc := 15) X.1 dJ1_canEncode_9a6ad_15 ?_
      exact z_zret (pc := 16) X hW (by decide) (Option.some.inj h) rfl dJ1_canEncode_9a6ad_16
    · refine z_iconst (pc := 11) X.1 dJ1_canEncode_9a6ad_11 ?_
      refine z_goto (pc := 12) (tgt := 16) X.1 dJ1_canEncode_9a6ad_12 (by decide) ?_
      exact z_zret (pc := 16) X hW (by decide) (Option.some.inj h) rfl dJ1_canEncode_9a6ad_16
-- J1_indexOfChar_4cfef
section
variable {p : Program} {l : Launch} {e : Env} {s : State} {m : MethodId} {args : Array Value} {below : List Frame} {meth : Method} {c : Code} {D : va_G} {cy : ClassId × ClassId} {ad : Nat → Nat} {A : Nat → Prop} {res : Int} {μ0 : mm}
theorem CL1_indexOfChar_4cfef_7 (X : zX p s m args meth c cJ1_indexOfChar_4cfef RJ1 wsJ1_indexOfChar_4cfef 6 D cy ad (some .int) A) (N : Nat) : ∀ (k : Nat) (r0 : Nat) (x3 : Int) (x4 : Int) (x5 : Int) (hk_r0 : 80 ≤ r0 ∧ r0 < 86) (μ : mm) (_ : μ = μ0), L1_indexOfChar_4cfef_7 N k r0 x3 x4 x5 μ = some res → ∀ (H : Heap) (locs : List Loc) (ls : Array Slot), zW D cy ad A s.heap μ H locs → lv_has ls 6 [(0, .ref (ad r0)), (3, .int (iO x3)), (4, .int (iO x4)), (5, .int (iO x5))] → W p l e (rmD 0) s m args below meth c H locs 0 0 (MQ below (zQi D cy ad A res μ0) args s 0 0 A) (F0 m 7 ls []) := by
  intro k
  induction k with
  | zero =>
    intro r0 x3 x4 x5 hk_r0 μ em h H locs ls hW hl
    exact absurd h (by rw [L1_indexOfChar_4cfef_7]; exact fun z => by cases z)
  | succ k ih =>
    intro r0 x3 x4 x5 hk_r0 μ em h H locs ls hW hl
    rw [L1_indexOfChar_4cfef_7] at h
    refine z_iload (pc := 7) X.1 hl 3 rfl dJ1_indexOfChar_4cfef_7 ?_
    refine z_iload_n (pc := 9) X.1 hl 1 rfl rfl dJ1_indexOfChar_4cfef_9 ?_
    obtain ⟨g2, h⟩ := z_guard h
    refine z_icmp_ge (pc := 10) (tgt := 31) X.1 dJ1_indexOfChar_4cfef_10 (by decide) ⟨g2.1, g2.2⟩ h (fun c6 h => ?_) (fun c6 h => ?_)
    · refine z_iconst (pc := 31) X.1 dJ1_indexOfChar_4cfef_31 ?_
      exact z_iret (pc := 32) X hW (Option.some.inj h) em dJ1_indexOfChar_4cfef_32
    · refine z_aload_n (pc := 13) X.1 hl 0 rfl rfl dJ1_indexOfChar_4cfef_13 ?_
      refine z_iload (pc := 14) X.1 hl 3 rfl dJ1_indexOfChar_4cfef_14 ?_
      obtain ⟨g3, h⟩ := z_guard h
      refine z_bald (pc := 16) X hW hk_r0 ⟨g3.1, g3.2⟩ dJ1_indexOfChar_4cfef_16 ?_
      refine z_iload (pc := 17) X.1 hl 2 rfl dJ1_indexOfChar_4cfef_17 ?_
      obtain ⟨g4, h⟩ := z_guard h
      refine z_icmp_ne (pc := 19) (tgt := 25) X.1 dJ1_indexOfChar_4cfef_19 (by decide) ⟨g4.1, g4.2⟩ h (fun c5 h => ?_) (fun c5 h => ?_)
      · refine z_iinc (pc := 25) (i := 5) X.1 [(5, .int (iO (x5 + 1))), (0, .ref (ad r0)), (3, .int (iO x3)), (4, .int (iO x4))] hl 3 rfl rfl (by decide) rfl dJ1_indexOfChar_4cfef_25 (fun ls hl => ?_)
        refine z_goto (pc := 28) (tgt := 7) X.1 dJ1_indexOfChar_4cfef_28 (by decide) ?_
        exact ih r0 x3 x4 (x5 + 1) hk_r0 μ em h _ _ ls hW (lv_sub hl [1, 2, 3, 0] rfl)
      · refine z_iload (pc := 22) X.1 hl 3 rfl dJ1_indexOfChar_4cfef_22 ?_
        exact z_iret (pc := 24) X hW (Option.some.inj h) em dJ1_indexOfChar_4cfef_24
end
theorem C1_indexOfChar_4cfef (l : Launch) {D : va_G} {cy : ClassId × ClassId} {ad : Nat → Nat} (N : Nat) (a0 : Nat) (a1 : Int) (a2 : Int) (a3 : Int) (h_a0 : 80 ≤ a0 ∧ a0 < 86) (μ0 : mm) {res : Int} (h : M1_indexOfChar_4cfef N a0 a1 a2 a3 μ0 = some res) : zI l yJ1_indexOfChar_4cfef wsJ1_indexOfChar_4cfef 0 D cy ad [.ref (ad a0), .int (iO a1), .int (iO a2), .int (iO a3)] μ0 res μ0 := by
  refine zI.of RJ1 rfl (by decide) rfl (Nat.le_of_ble_eq_true rfl) ?_
  intro p e s m args below meth c A X hW ls hl
  have hl : lv_has ls 6 [(0, .ref (ad a0)), (1, .int (iO a1)), (2, .int (iO a2)), (3, .int (iO a3))] := hl
  unfold M1_indexOfChar_4cfef at h
  refine z_iload_n (pc := 0) X.1 hl 1 rfl rfl dJ1_indexOfChar_4cfef_0 ?_
  refine z_i2b (pc := 1) X.1 dJ1_indexOfChar_4cfef_1 ?_
  obtain ⟨w1, ew1, h⟩ := z_bnd h
  refine z_istore (pc := 2) (i := 4) X.1 [(4, .int (iO w1)), (0, .ref (ad a0)), (1, .int (iO a1)), (2, .int (iO a2)), (3, .int (iO a3))] hl ew1 (by decide) rfl dJ1_indexOfChar_4cfef_2 (fun ls hl => ?_)
  refine z_iload_n (pc := 4) X.1 hl 3 rfl rfl dJ1_indexOfChar_4cfef_4 ?_
  refine z_istore (pc := 5) (i := 5) X.1 [(5, .int (iO a2)), (4, .int (iO w1)), (0, .ref (ad a0)), (1, .int (iO a1)), (2, .int (iO a2)), (3, .int (iO a3))] hl rfl (by decide) rfl dJ1_indexOfChar_4cfef_5 (fun ls hl => ?_)
  exact CL1_indexOfChar_4cfef_7 X N N a0 a3 w1 a2 h_a0 μ0 rfl h _ _ ls hW (lv_sub hl [2, 5, 1, 0] rfl)
