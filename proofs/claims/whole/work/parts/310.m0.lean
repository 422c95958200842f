-- X0_needs
theorem C0_needs (l : Launch) {D : va_G} {cy : ClassId × ClassId} {ad : Nat → Nat} (N : Nat) (a0 : Int) (a1 : Int) (μ0 : mm) {res : Int} (h : M0_needs N a0 a1 μ0 = some res) : zI l yX0_needs wsX0_needs 0 D cy ad [.int (iO a0), .int (iO a1)] μ0 res μ0 := by
  refine zI.of RX0 rfl (by decide) rfl (Nat.le_of_ble_eq_true rfl) ?_
  intro p e s m args below meth c A X hW ls hl
  have hl : lv_has ls 4 [(0, .int (iO a0)), (1, .int (iO a1))] := hl
  unfold M0_needs at h
  refine z_iload_n (pc := 0) X.1 hl 1 rfl rfl dX0_needs_0 ?_
  refine z_iconst (pc := 1) X.1 dX0_needs_1 ?_
  refine z_iadd (pc := 2) X.1 dX0_needs_2 ?_
  obtain ⟨w1, ew1, h⟩ := z_bnd h
  refine z_istore_n (pc := 3) (i := 2) X.1 [(2, .int (iO w1)), (0, .int (iO a0)), (1, .int (iO a1))] hl ew1 rfl (by decide) rfl dX0_needs_3 (fun ls hl => ?_)
  refine z_iload_n (pc := 4) X.1 hl 0 rfl rfl dX0_needs_4 ?_
  refine z_iconst (pc := 5) X.1 dX0_needs_5 ?_
  refine z_iadd (pc := 6) X.1 dX0_needs_6 ?_
  obtain ⟨w2, ew2, h⟩ := z_bnd h
  refine z_istore_n (pc := 7) (i := 3) X.1 [(3, .int (iO w2)), (2, .int (iO w1)), (0, .int (iO a0)), (1, .int (iO a1))] hl ew2 rfl (by decide) rfl dX0_needs_7 (fun ls hl => ?_)
  refine z_iload_n (pc := 8) X.1 hl 2 rfl rfl dX0_needs_8 ?_
  obtain ⟨g3, h⟩ := z_guard h
  by_cases c4 : a0 = 1
  · rw [if_pos c4] at h
    refine z_tin (pc := 9) (v := 1) (tgt := 44) X.1 dX0_needs_9 c4 (by decide) (by decide) rfl (by decide) ?_
    refine z_iload_n (pc := 44) X.1 hl 0 rfl rfl dX0_needs_44 ?_
    exact z_iret (pc := 45) X hW (Option.some.inj h) rfl dX0_needs_45
  · rw [if_neg c4] at h
    by_cases c5 : a0 = 2
    · rw [if_pos c5] at h
      refine z_tin (pc := 9) (v := 2) (tgt := 46) X.1 dX0_needs_9 c5 (by decide) (by decide) rfl (by decide) ?_
      refine z_iload_n (pc := 46) X.1 hl 1 rfl rfl dX0_needs_46 ?_
      refine z_iconst (pc := 47) X.1 dX0_needs_47 ?_
      refine z_imul (pc := 48) X.1 dX0_needs_48 ?_
      exact z_iret (pc := 49) X hW (Option.some.inj h) rfl dX0_needs_49
    · rw [if_neg c5] at h
      by_cases c7 : a0 = 3
      · rw [if_pos c7] at h
        refine z_tin (pc := 9) (v := 3) (tgt := 50) X.1 dX0_needs_9 c7 (by decide) (by decide) rfl (by decide) ?_
        refine z_iload_n (pc := 50) X.1 hl 1 rfl rfl dX0_needs_50 ?_
        refine z_iconst (pc := 51) X.1 dX0_needs_51 ?_
        obtain ⟨g6, h⟩ := z_guard h
        refine z_idiv (pc := 52) X.1 dX0_needs_52 ⟨g6.1, (by decide), g6.2, (by decide)⟩ ?_
        exact z_iret (pc := 53) X hW (Option.some.inj h) rfl dX0_needs_53
      · rw [if_neg c7] at h
        by_cases c8 : a0 = 4
        · rw [if_pos c8] at h
          refine z_tin (pc := 9) (v := 4) (tgt := 54) X.1 dX0_needs_9 c8 (by decide) (by decide) rfl (by decide) ?_
          refine z_iload_n (pc := 54) X.1 hl 0 rfl rfl dX0_needs_54 ?_
          refine z_bipush (pc := 55) X.1 dX0_needs_55 (by decide) ?_
          refine z_iadd (pc := 57) X.1 dX0_needs_57 ?_
          exact z_iret (pc := 58) X hW (Option.some.inj h) rfl dX0_needs_58
        · rw [if_neg c8] at h
          by_cases c9 : a0 = 5
          · rw [if_pos c9] at h
            refine z_tin (pc := 9) (v := 5) (tgt := 59) X.1 dX0_needs_9 c9 (by decide) (by decide) rfl (by decide) ?_
            refine z_iconst (pc := 59) X.1 dX0_needs_59 ?_
            exact z_iret (pc := 60) X hW (Option.some.inj h) rfl dX0_needs_60
          · rw [if_neg c9] at h
            refine z_tout (pc := 9) (tgt := 61) X.1 dX0_needs_9 g3 (by omega) (by decide) ?_
            refine z_iload_n (pc := 61) X.1 hl 1 rfl rfl dX0_needs_61 ?_
            exact z_iret (pc := 62) X hW (Option.some.inj h) rfl dX0_needs_62
-- X0_wears
theorem C0_wears (l : Launch) {D : va_G} {cy : ClassId × ClassId} {ad : Nat → Nat} (N : Nat) (a0 : Int) (a1 : Int) (μ0 : mm) {res : Int} (h : M0_wears N a0 a1 μ0 = some res) : zI l yX0_wears wsX0_wears 0 D cy ad [.int (iO a0), .int (iO a1)] μ0 res μ0 := by
  refine zI.of RX0 rfl (by decide) rfl (Nat.le_of_ble_eq_true rfl) ?_
  intro p e s m args below meth c A X hW ls hl
  have hl : lv_has ls 2 [(0, .int (iO a0)), (1, .int (iO a1))] := hl
  unfold M0_wears at h
  refine z_iload_n (pc := 0) X.1 hl 0 rfl rfl dX0_wears_0 ?_
  obtain ⟨g1, h⟩ := z_guard h
  by_cases c2 : a0 = 2
  · rw [if_pos c2] at h
    refine z_tin (pc := 1) (v := 2) (tgt := 32) X.1 dX0_wears_1 c2 (by decide) (by decide) rfl (by decide) ?_
    refine z_iload_n (pc := 32) X.1 hl 1 rfl rfl dX0_wears_32 ?_
    exact z_iret (pc := 33) X hW (Option.some.inj h) rfl dX0_wears_33
  · rw [if_neg c2] at h
    by_cases c3 : a0 = 3
    · rw [if_pos c3] at h
      refine z_tin (pc := 1) (v := 3) (tgt := 34) X.1 dX0_wears_1 c3 (by decide) (by decide) rfl (by decide) ?_
      refine z_iconst (pc := 34) X.1 dX0_wears_34 ?_
      exact z_iret (pc := 35) X hW (Option.some.inj h) rfl dX0_wears_35
    · rw [if_neg c3] at h
      by_cases c5 : a0 = 4
      · rw [if_pos c5] at h
        refine z_tin (pc := 1) (v := 4) (tgt := 36) X.1 dX0_wears_1 c5 (by decide) (by decide) rfl (by decide) ?_
        refine z_iload_n (pc := 36) X.1 hl 1 rfl rfl dX0_wears_36 ?_
        refine z_iconst (pc := 37) X.1 dX0_wears_37 ?_
        obtain ⟨g4, h⟩ := z_guard h
        refine z_idiv (pc := 38) X.1 dX0_wears_38 ⟨g4.1, (by decide), g4.2, (by decide)⟩ ?_
        exact z_iret (pc := 39) X hW (Option.some.inj h) rfl dX0_wears_39
      · rw [if_neg c5] at h
        by_cases c6 : a0 = 5
        · rw [if_pos c6] at h
          refine z_tin (pc := 1) (v := 5) (tgt := 40) X.1 dX0_wears_1 c6 (by decide) (by decide) rfl (by decide) ?_
          refine z_iconst (pc := 40) X.1 dX0_wears_40 ?_
          exact z_iret (pc := 41) X hW (Option.some.inj h) rfl dX0_wears_41
        · rw [if_neg c6] at h
          refine z_tout (pc := 1) (tgt := 42) X.1 dX0_wears_1 g1 (by omega) (by decide) ?_
          refine z_iload_n (pc := 42) X.1 hl 1 rfl rfl dX0_wears_42 ?_
          refine z_iconst (pc := 43) X.1 dX0_wears_43 ?_
          obtain ⟨g7, h⟩ := z_guard h
          refine z_idiv (pc := 44) X.1 dX0_wears_44 ⟨g7.1, (by decide), g7.2, (by decide)⟩ ?_
          exact z_iret (pc := 45) X hW (Option.some.inj h) rfl dX0_wears_45
-- X0_nextIn
theorem C0_nextIn (l : Launch) {D : va_G} {cy : ClassId × ClassId} {ad : Nat → Nat} (N : Nat) (a0 : Int) (μ0 : mm) {res : Int} (h : M0_nextIn N a0 μ0 = some res) : zI l yX0_nextIn wsX0_nextIn 0 D cy ad [.int (iO a0)] μ0 res μ0 := by
  refine zI.of RX0 rfl (by decide) rfl (Nat.le_of_ble_eq_true rfl) ?_
  intro p e s m args below meth c A X hW ls hl
  have hl : lv_has ls 2 [(0, .int (iO a0))] := hl
  unfold M0_nextIn at h
  refine z_bipush (pc := 0) X.1 dX0_nextIn_0 (by decide) ?_
  refine z_istore_n (pc := 2) (i := 1) X.1 [(1, .int (iO 7)), (0, .int (iO a0))] hl rfl rfl (by decide) rfl dX0_nextIn_2 (fun ls hl => ?_)
  refine z_iload_n (pc := 3) X.1 hl 1 rfl rfl dX0_nextIn_3 ?_
  obtain ⟨g1, h⟩ := z_guard h
  by_cases c2 : a0 = 1
  · rw [if_pos c2] at h
    refine z_tin (pc := 4) (v := 1) (tgt := 40) X.1 dX0_nextIn_4 c2 (by decide) (by decide) rfl (by decide) ?_
    refine z_iconst (pc := 40) X.1 dX0_nextIn_40 ?_
    exact z_iret (pc := 41) X hW (Option.some.inj h) rfl dX0_nextIn_41
  · rw [if_neg c2] at h
    by_cases c3 : a0 = 2
    · rw [if_pos c3] at h
      refine z_tin (pc := 4) (v := 2) (tgt := 42) X.1 dX0_nextIn_4 c3 (by decide) (by decide) rfl (by decide) ?_
      refine z_bipush (pc := 42) X.1 dX0_nextIn_42 (by decide) ?_
      exact z_iret (pc := 44) X hW (Option.some.inj h) rfl dX0_nextIn_44
    · rw [if_neg c3] at h
      by_cases c4 : a0 = 3
      · rw [if_pos c4] at h
        refine z_tin (pc := 4) (v := 3) (tgt := 51) X.1 dX0_nextIn_4 c4 (by decide) (by decide) rfl (by decide) ?_
        refine z_iload_n (pc := 51) X.1 hl 0 rfl rfl dX0_nextIn_51 ?_
        exact z_iret (pc := 52) X hW (Option.some.inj h) rfl dX0_nextIn_52
      · rw [if_neg c4] at h
        by_cases c5 : a0 = 4
        · rw [if_pos c5] at h
          refine z_tin (pc := 4) (v := 4) (tgt := 45) X.1 dX0_nextIn_4 c5 (by decide) (by decide) rfl (by decide) ?_
          refine z_iconst (pc := 45) X.1 dX0_nextIn_45 ?_
          exact z_iret (pc := 46) X hW (Option.some.inj h) rfl dX0_nextIn_46
        · rw [if_neg c5] at h
          by_cases c6 : a0 = 5
          · rw [if_pos c6] at h
            refine z_tin (pc := 4) (v := 5) (tgt := 47) X.1 dX0_nextIn_4 c6 (by decide) (by decide) rfl (by decide) ?_
            refine z_iload_n (pc := 47) X.1 hl 0 rfl rfl dX0_nextIn_47 ?_
            refine z_iconst (pc := 48) X.1 dX0_nextIn_48 ?_
            refine z_iadd (pc := 49) X.1 dX0_nextIn_49 ?_
            exact z_iret (pc := 50) X hW (Option.some.inj h) rfl dX0_nextIn_50
          · rw [if_neg c6] at h
            refine z_tout (pc := 4) (tgt := 51) X.1 dX0_nextIn_4 g1 (by omega) (by decide) ?_
            refine z_iload_n (pc := 51) X.1 hl 0 rfl rfl dX0_nextIn_51 ?_
            exact z_iret (pc := 52) X hW (Option.some.inj h) rfl dX0_nextIn_52
-- X1_knows
theorem iX1_knows_3 : ∀ w ∈ wsX10, w ∈ wsX1_knows := by decide +kernel
theorem C1_knows (l : Launch) {D : va_G} {cy : ClassId × ClassId} {ad : Nat → Nat} (N : Nat) (o : Nat) (a0 : Int) (h_o : kd o = 3) (μ0 : mm) {res : Int} (h : M1_knows N o a0 μ0 = some res) : zI l yX1_knows wsX1_knows 0 D cy ad [.ref (ad o), .int (iO a0)] μ0 res μ0 := by
  refine zI.of RX1 rfl (by decide) rfl (Nat.le_of_ble_eq_true rfl) ?_
  intro p e s m args below meth c A X hW ls hl
  have hl : lv_has ls 2 [(0, .ref (ad o)), (1, .int (iO a0))] := hl
  unfold M1_knows at h
  refine z_iload_n (pc := 0) X.1 hl 1 rfl rfl dX1_knows_0 ?_
  obtain ⟨g1, h⟩ := z_guard h
  refine z_if_lt (pc := 1) (tgt := 16) X.1 dX1_knows_1 (by decide) g1 h (fun c4 h => ?_) (fun c4 h => ?_)
  · refine z_iconst (pc := 16) X.1 dX1_knows_16 ?_
    exact z_zret (pc := 17) X hW (by decide) (Option.some.inj h) rfl dX1_knows_17
  · refine z_iload_n (pc := 4) X.1 hl 1 rfl rfl dX1_knows_4 ?_
    refine z_aload_n (pc := 5) X.1 hl 0 rfl rfl dX1_knows_5 ?_
    refine z_get3 (pc := 6) X.1 hW h_o iX1_knows_3 2 (by decide) rfl (by decide +kernel) dX1_knows_6 ?_
    obtain ⟨g2, h⟩ := z_guard h
    refine z_icmp_ge (pc := 9) (tgt := 16) X.1 dX1_knows_9 (by decide) ⟨g2.1, g2.2⟩ h (fun c3 h => ?_) (fun c3 h => ?_)
    · refine z_iconst (pc := 16) X.1 dX1_knows_16 ?_
      exact z_zret (pc := 17) X hW (by decide) (Option.some.inj h) rfl dX1_knows_17
    · refine z_iconst (pc := 12) X.1 dX1_knows_12 ?_
      refine z_goto (pc := 13) (tgt := 17) X.1 dX1_knows_13 (by decide) ?_
      exact z_zret (pc := 17) X hW (by decide) (Option.some.inj h) rfl dX1_knows_17
-- X1_at
theorem iX1_at_3 : ∀ w ∈ wsX10, w ∈ wsX1_at := by decide +kernel
theorem C1_at (l : Launch) {D : va_G} {cy : ClassId × ClassId} {ad : Nat → Nat} (N : Nat) (o : Nat) (a0 : Int) (h_o : kd o = 3) (μ0 : mm) {res : Nat} (h : M1_at N o a0 μ0 = some res) : zR l yX1_at wsX1_at 0 D cy ad [.ref (ad o), .int (iO a0)] μ0 res μ0 := by
  refine zR.of RX1 rfl (by decide) rfl (Nat.le_of_ble_eq_true rfl) ?_
  intro p e s m args below meth c A X hW ls hl
  have hl : lv_has ls 2 [(0, .ref (ad o)), (1, .int (iO a0))] := hl
  unfold M1_at at h
  refine z_iload_n (pc := 0) X.1 hl 1 rfl rfl dX1_at_0 ?_
  obtain ⟨g1, h⟩ := z_guard h
  refine z_if_lt (pc := 1) (tgt := 22) X.1 dX1_at_1 (by decide) g1 h (fun c5 h => ?_) (fun c5 h => ?_)
  · refine z_aload_n (pc := 22) X.1 hl 0 rfl rfl dX1_at_22 ?_
    refine z_get3 (pc := 23) X.1 hW h_o iX1_at_3 1 (by decide) rfl (by decide +kernel) dX1_at_23 ?_
    exact z_aret (pc := 26) X hW (Option.some.inj h) rfl dX1_at_26
  · refine z_iload_n (pc := 4) X.1 hl 1 rfl rfl dX1_at_4 ?_
    refine z_aload_n (pc := 5) X.1 hl 0 rfl rfl dX1_at_5 ?_
    refine z_get3 (pc := 6) X.1 hW h_o iX1_at_3 0 (by decide) rfl (by decide +kernel) dX1_at_6 ?_
    refine z_alen4 (pc := 9) X.1 hW (kd_room h_o) dX1_at_9 ?_
    obtain ⟨g2, h⟩ := z_guard h
    refine z_icmp_ge (pc := 10) (tgt := 22) X.1 dX1_at_10 (by decide) ⟨g2, (by decide)⟩ h (fun c4 h => ?_) (fun c4 h => ?_)
    · refine z_aload_n (pc := 22) X.1 hl 0 rfl rfl dX1_at_22 ?_
      refine z_get3 (pc := 23) X.1 hW h_o iX1_at_3 1 (by decide) rfl (by decide +kernel) dX1_at_23 ?_
      exact z_aret (pc := 26) X hW (Option.some.inj h) rfl dX1_at_26
    · refine z_aload_n (pc := 13) X.1 hl 0 rfl rfl dX1_at_13 ?_
      refine z_get3 (pc := 14) X.1 hW h_o iX1_at_3 0 (by decide) rfl (by decide +kernel) dX1_at_14 ?_
      refine z_iload_n (pc := 17) X.1 hl 1 rfl rfl dX1_at_17 ?_
      obtain ⟨g3, h⟩ := z_guard h
      refine z_aald (pc := 18) X.1 hW (kd_room h_o) ⟨g3.1, g3.2⟩ dX1_at_18 ?_
      refine z_goto (pc := 19) (tgt := 26) X.1 dX1_at_19 (by decide) ?_
      exact z_aret (pc := 26) X hW (Option.some.inj h) rfl dX1_at_26
-- X2_takeFrom
theorem iX2_takeFrom_5 : ∀ w ∈ wsX20, w ∈ wsX2_takeFrom := by decide +kernel
theorem C2_takeFrom (l : Launch) {D : va_G} {cy : ClassId × ClassId} {ad : Nat → Nat} (N : Nat) (o : Nat) (a0 : Nat) (h_o : kd o = 5) (h_a0 : kd a0 = 5) (μ : mm) {res : mm} (h : M2_takeFrom N o a0 μ = some res) : zV l yX2_takeFrom wsX2_takeFrom 0 D cy ad [.ref (ad o), .ref (ad a0)] μ res := by
  refine zV.of RX2 rfl (by decide) rfl (Nat.le_of_ble_eq_true rfl) ?_
  intro p e s m args below meth c A X hW ls hl
  have hl : lv_has ls 2 [(0, .ref (ad o)), (1, .ref (ad a0))] := hl
  unfold M2_takeFrom at h
  refine z_aload_n (pc := 0) X.1 hl 0 rfl rfl dX2_takeFrom_0 ?_
  refine z_aload_n (pc := 1) X.1 hl 1 rfl rfl dX2_takeFrom_1 ?_
  refine z_get5 (pc := 2) X.1 hW h_a0 iX2_takeFrom_5 0 (by decide) rfl (by decide +kernel) dX2_takeFrom_2 ?_
  obtain ⟨μ1, eμ1, h⟩ := z_bnd h
  refine z_put5_0 (pc := 5) X.1 hW h_o iX2_takeFrom_5 (by decide +kernel) dX2_takeFrom_5 (fun H locs hW => ?_)
  rw [← eμ1] at hW
  refine z_aload_n (pc := 8) X.1 hl 0 rfl rfl dX2_takeFrom_8 ?_
  refine z_aload_n (pc := 9) X.1 hl 1 rfl rfl dX2_takeFrom_9 ?_
  refine z_get5 (pc := 10) X.1 hW h_a0 iX2_takeFrom_5 1 (by decide) rfl (by decide +kernel) dX2_takeFrom_10 ?_
  obtain ⟨μ2, eμ2, h⟩ := z_bnd h
  refine z_put5_1 (pc := 13) X.1 hW h_o iX2_takeFrom_5 (by decide +kernel) dX2_takeFrom_13 (fun H locs hW => ?_)
  rw [← eμ2] at hW
  refine z_aload_n (pc := 16) X.1 hl 0 rfl rfl dX2_takeFrom_16 ?_
  refine z_aload_n (pc := 17) X.1 hl 1 rfl rfl dX2_takeFrom_17 ?_
  refine z_get5 (pc := 18) X.1 hW h_a0 iX2_takeFrom_5 2 (by decide) rfl (by decide +kernel) dX2_takeFrom_18 ?_
  obtain ⟨μ3, eμ3, h⟩ := z_bnd h
  refine z_put5_2 (pc := 21) X.1 hW h_o iX2_takeFrom_5 (by decide +kernel) dX2_takeFrom_21 (fun H locs hW => ?_)
  rw [← eμ3] at hW
  refine z_aload_n (pc := 24) X.1 hl 0 rfl rfl dX2_takeFrom_24 ?_
  refine z_aload_n (pc := 25) X.1 hl 1 rfl rfl dX2_takeFrom_25 ?_
  refine z_get5 (pc := 26) X.1 hW h_a0 iX2_takeFrom_5 3 (by decide) rfl (by decide +kernel) dX2_takeFrom_26 ?_
  obtain ⟨μ4, eμ4, h⟩ := z_bnd h
  refine z_put5_3 (pc := 29) X.1 hW h_o iX2_takeFrom_5 (by decide +kernel) dX2_takeFrom_29 (fun H locs hW => ?_)
  rw [← eμ4] at hW
  refine z_aload_n (pc := 32) X.1 hl 0 rfl rfl dX2_takeFrom_32 ?_
  refine z_aload_n (pc := 33) X.1 hl 1 rfl rfl dX2_takeFrom_33 ?_
  refine z_get5 (pc := 34) X.1 hW h_a0 iX2_takeFrom_5 4 (by decide) rfl (by decide +kernel) dX2_takeFrom_34 ?_
  obtain ⟨μ5, eμ5, h⟩ := z_bnd h
  refine z_put5_4 (pc := 37) X.1 hW h_o iX2_takeFrom_5 (by decide +kernel) dX2_takeFrom_37 (fun H locs hW => ?_)
  rw [← eμ5] at hW
  refine z_aload_n (pc := 40) X.1 hl 0 rfl rfl dX2_takeFrom_40 ?_
  refine z_aload_n (pc := 41) X.1 hl 1 rfl rfl dX2_takeFrom_41 ?_
  refine z_get5 (pc := 42) X.1 hW h_a0 iX2_takeFrom_5 5 (by decide) rfl (by decide +kernel) dX2_takeFrom_42 ?_
  obtain ⟨μ6, eμ6, h⟩ := z_bnd h
  refine z_put5_5 (pc := 45) X.1 hW h_o iX2_takeFrom_5 (by decide +kernel) dX2_takeFrom_45 (fun H locs hW => ?_)
  rw [← eμ6] at hW
  refine z_aload_n (pc := 48) X.1 hl 0 rfl rfl dX2_takeFrom_48 ?_
  refine z_iconst (pc := 49) X.1 dX2_takeFrom_49 ?_
  obtain ⟨μ7, eμ7, h⟩ := z_bnd h
  refine z_put5_6 (pc := 50) X.1 hW h_o iX2_takeFrom_5 (by decide +kernel) dX2_takeFrom_50 (fun H locs hW => ?_)
  rw [← eμ7] at hW
  refine z_aload_n (pc := 53) X.1 hl 0 rfl rfl dX2_takeFrom_53 ?_
  refine z_iconst (pc := 54) X.1 dX2_takeFrom_54 ?_
  obtain ⟨μ8, eμ8, h⟩ := z_bnd h
  refine z_put5_7 (pc := 55) X.1 hW h_o iX2_takeFrom_5 (by decide +kernel) dX2_takeFrom_55 (fun H locs hW => ?_)
  rw [← eμ8] at hW
  exact z_vret (pc := 58) X hW (Option.some.inj h) dX2_takeFrom_58
-- X1_takeFrom
theorem iX1_takeFrom_3 : ∀ w ∈ wsX10, w ∈ wsX1_takeFrom := by decide +kernel
section
variable {p : Program} {l : Launch} {e : Env} {s : State} {m : MethodId} {args : Array Value} {below : List Frame} {meth : Method} {c : Code} {D : va_G} {cy : ClassId × ClassId} {ad : Nat → Nat} {A : Nat → Prop} {res : mm}
theorem CL1_takeFrom_34 (X : zX p s m args meth c cX1_takeFrom RX1 wsX1_takeFrom 3 D cy ad none A) (N : Nat) : ∀ (k : Nat) (r0 : Nat) (r1 : Nat) (x2 : Int) (hk_r0 : kd r0 = 3) (hk_r1 : kd r1 = 3) (μ : mm), L1_takeFrom_34 N k r0 r1 x2 μ = some res → ∀ (H : Heap) (locs : List Loc) (ls : Array Slot), zW D cy ad A s.heap μ H locs → lv_has ls 3 [(0, .ref (ad r0)), (1, .ref (ad r1)), (2, .int (iO x2))] → W p l e (rmD 1) s m args below meth c H locs 0 0 (MQ below (zQv D cy ad A res) args s 0 0 A) (F0 m 34 ls []) := by
  intro k
  induction k with
  | zero =>
    intro r0 r1 x2 hk_r0 hk_r1 μ h H locs ls hW hl
    exact absurd h (by rw [L1_takeFrom_34]; exact fun z => by cases z)
  | succ k ih =>
    intro r0 r1 x2 hk_r0 hk_r1 μ h H locs ls hW hl
    rw [L1_takeFrom_34] at h
    refine z_iload_n (pc := 34) X.1 hl 2 rfl rfl dX1_takeFrom_34 ?_
    refine z_aload_n (pc := 35) X.1 hl 0 rfl rfl dX1_takeFrom_35 ?_
    refine z_get3 (pc := 36) X.1 hW hk_r0 iX1_takeFrom_3 2 (by decide) rfl (by decide +kernel) dX1_takeFrom_36 ?_
    obtain ⟨g5, h⟩ := z_guard h
    refine z_icmp_ge (pc := 39) (tgt := 61) X.1 dX1_takeFrom_39 (by decide) ⟨g5.1, g5.2⟩ h (fun c11 h => ?_) (fun c11 h => ?_)
    · exact z_vret (pc := 61) X hW (Option.some.inj h) dX1_takeFrom_61
    · refine z_aload_n (pc := 42) X.1 hl 0 rfl rfl dX1_takeFrom_42 ?_
      refine z_iload_n (pc := 43) X.1 hl 2 rfl rfl dX1_takeFrom_43 ?_
      obtain ⟨q6, eq6, h⟩ := z_bind h
      obtain ⟨g7, h⟩ := z_guard h
      refine z_callV3R (pc := 44) (n := 1) (As := [.int (iO x2)]) (rest := []) X hW hl hk_r0 (C1_at l N r0 x2 hk_r0 μ eq6) gX1_takeFrom_X1_at rfl (by decide +kernel) rfl (by decide) rfl (Nat.le_of_ble_eq_true rfl) dX1_takeFrom_44 (fun H locs hW => ?_)
      refine z_aload_n (pc := 47) X.1 hl 1 rfl rfl dX1_takeFrom_47 ?_
      refine z_iload_n (pc := 48) X.1 hl 2 rfl rfl dX1_takeFrom_48 ?_
      obtain ⟨q8, eq8, h⟩ := z_bind h
      obtain ⟨g9, h⟩ := z_guard h
      refine z_callV3R (pc := 49) (n := 1) (As := [.int (iO x2)]) (rest := [.ref (ad q6)]) X hW hl hk_r1 (C1_at l N r1 x2 hk_r1 μ eq8) gX1_takeFrom_X1_at rfl (by decide +kernel) rfl (by decide) rfl (Nat.le_of_ble_eq_true rfl) dX1_takeFrom_49 (fun H locs hW => ?_)
      obtain ⟨q10, eq10, h⟩ := z_bind h
      refine z_callV5V (pc := 52) (n := 1) (As := [.ref (ad q8)]) (rest := []) X hW hl g7 (C2_takeFrom l N q6 q8 g7 g9 μ eq10) gX1_takeFrom_X2_takeFrom rfl (by decide +kernel) rfl (by decide) rfl (Nat.le_of_ble_eq_true rfl) dX1_takeFrom_52 (fun H locs hW => ?_)
      refine z_iinc (pc := 55) (i := 2) X.1 [(2, .int (iO (x2 + 1))), (0, .ref (ad r0)), (1, .ref (ad r1))] hl 2 rfl rfl (by decide) rfl dX1_takeFrom_55 (fun ls hl => ?_)
      refine z_goto (pc := 58) (tgt := 34) X.1 dX1_takeFrom_58 (by decide) ?_
      exact ih r0 r1 (x2 + 1) hk_r0 hk_r1 q10 h _ _ ls hW (lv_sub hl [1, 2, 0] rfl)
end
theorem C1_takeFrom (l : Launch) {D : va_G} {cy : ClassId × ClassId} {ad : Nat → Nat} (N : Nat) (o : Nat) (a0 : Nat) (h_o : kd o = 3) (h_a0 : kd a0 = 3) (μ : mm) {res : mm} (h : M1_takeFrom N o a0 μ = some res) : zV l yX1_takeFrom wsX1_takeFrom 1 D cy ad [.ref (ad o), .ref (ad a0)] μ res := by
  refine zV.of RX1 rfl (by decide) rfl (Nat.le_of_ble_eq_true rfl) ?_
  intro p e s m args below meth c A X hW ls hl
  have hl : lv_has ls 3 [(0, .ref (ad o)), (1, .ref (ad a0))] := hl
  unfold M1_takeFrom at h
  refine z_aload_n (pc := 0) X.1 hl 0 rfl rfl dX1_takeFrom_0 ?_
  refine z_aload_n (pc := 1) X.1 hl 1 rfl rfl dX1_takeFrom_1 ?_
  refine z_get3 (pc := 2) X.1 hW h_a0 iX1_takeFrom_3 2 (by decide) rfl (by decide +kernel) dX1_takeFrom_2 ?_
  obtain ⟨μ1, eμ1, h⟩ := z_bnd h
  refine z_put3_2 (pc := 5) X.1 hW h_o iX1_takeFrom_3 (by decide +kernel) dX1_takeFrom_5 (fun H locs hW => ?_)
  rw [← eμ1] at hW
  refine z_aload_n (pc := 8) X.1 hl 0 rfl rfl dX1_takeFrom_8 ?_
  refine z_aload_n (pc := 9) X.1 hl 1 rfl rfl dX1_takeFrom_9 ?_
  refine z_get3 (pc := 10) X.1 hW h_a0 iX1_takeFrom_3 3 (by decide) rfl (by decide +kernel) dX1_takeFrom_10 ?_
  obtain ⟨μ2, eμ2, h⟩ := z_bnd h
  refine z_put3_3 (pc := 13) X.1 hW h_o iX1_takeFrom_3 (by decide +kernel) dX1_takeFrom_13 (fun H locs hW => ?_)
  rw [← eμ2] at hW
  refine z_aload_n (pc := 16) X.1 hl 0 rfl rfl dX1_takeFrom_16 ?_
  refine z_aload_n (pc := 17) X.1 hl 1 rfl rfl dX1_takeFrom_17 ?_
  refine z_get3 (pc := 18) X.1 hW h_a0 iX1_takeFrom_3 4 (by decide) rfl (by decide +kernel) dX1_takeFrom_18 ?_
  obtain ⟨μ3, eμ3, h⟩ := z_bnd h
  refine z_put3_4 (pc := 21) X.1 hW h_o iX1_takeFrom_3 (by decide +kernel) dX1_takeFrom_21 (fun H locs hW => ?_)
  rw [← eμ3] at hW
  refine z_aload_n (pc := 24) X.1 hl 0 rfl rfl dX1_takeFrom_24 ?_
  refine z_aload_n (pc := 25) X.1 hl 1 rfl rfl dX1_takeFrom_25 ?_
  refine z_get3 (pc := 26) X.1 hW h_a0 iX1_takeFrom_3 5 (by decide) rfl (by decide +kernel) dX1_takeFrom_26 ?_
  obtain ⟨μ4, eμ4, h⟩ := z_bnd h
  refine z_put3_5 (pc := 29) X.1 hW h_o iX1_takeFrom_3 (by decide +kernel) dX1_takeFrom_29 (fun H locs hW => ?_)
  rw [← eμ4] at hW
  refine z_iconst (pc := 32) X.1 dX1_takeFrom_32 ?_
  refine z_istore_n (pc := 33) (i := 2) X.1 [(2, .int (iO 0)), (0, .ref (ad o)), (1, .ref (ad a0))] hl rfl rfl (by decide) rfl dX1_takeFrom_33 (fun ls hl => ?_)
  exact CL1_takeFrom_34 X N N o a0 0 h_o h_a0 μ4 h _ _ ls hW (lv_sub hl [1, 2, 0] rfl)
-- X1_welcome
theorem iX1_welcome_3 : ∀ w ∈ wsX10, w ∈ wsX1_welcome := by decide +kernel
theorem iX1_welcome_5 : ∀ w ∈ wsX20, w ∈ wsX1_welcome := by decide +kernel
theorem C1_welcome (l : Launch) {D : va_G} {cy : ClassId × ClassId} {ad : Nat → Nat} (N : Nat) (o : Nat) (a0 : Int) (a1 : Int) (a2 : Int) (h_o : kd o = 3) (μ : mm) {res : (Int × mm)} (h : M1_welcome N o a0 a1 a2 μ = some res) : zI l yX1_welcome wsX1_welcome 1 D cy ad [.ref (ad o), .int (iO a0), .int (iO a1), .int (iO a2)] μ res.1 res.2 := by
  refine zI.of RX1 rfl (by decide) rfl (Nat.le_of_ble_eq_true rfl) ?_
  intro p e s m args below meth c A X hW ls hl
  have hl : lv_has ls 5 [(0, .ref (ad o)), (1, .int (iO a0)), (2, .int (iO a1)), (3, .int (iO a2))] := hl
  unfold M1_welcome at h
  refine z_aload_n (pc := 0) X.1 hl 0 rfl rfl dX1_welcome_0 ?_
  refine z_get3 (pc := 1) X.1 hW h_o iX1_welcome_3 2 (by decide) rfl (by decide +kernel) dX1_welcome_1 ?_
  refine z_aload_n (pc := 4) X.1 hl 0 rfl rfl dX1_welcome_4 ?_
  refine z_get3 (pc := 5) X.1 hW h_o iX1_welcome_3 0 (by decide) rfl (by decide +kernel) dX1_welcome_5 ?_
  refine z_alen4 (pc := 8) X.1 hW (kd_room h_o) dX1_welcome_8 ?_
  obtain ⟨g1, h⟩ := z_guard h
  refine z_icmp_ge (pc := 9) (tgt := 18) X.1 dX1_welcome_9 (by decide) ⟨g1, (by decide)⟩ h (fun c11 h => ?_) (fun c11 h => ?_)
  · refine z_iconst (pc := 18) X.1 dX1_welcome_18 ?_
    exact z_zret (pc := 19) X hW (by decide) (z_p1 h) (z_p2 h) dX1_welcome_19
  · refine z_iload_n (pc := 12) X.1 hl 3 rfl rfl dX1_welcome_12 ?_
    refine z_bipush (pc := 13) X.1 dX1_welcome_13 (by decide) ?_
    obtain ⟨g2, h⟩ := z_guard h
    refine z_icmp_le (pc := 15) (tgt := 20) X.1 dX1_welcome_15 (by decide) ⟨g2, (by decide)⟩ h (fun c10 h => ?_) (fun c10 h => ?_)
    · refine z_aload_n (pc := 20) X.1 hl 0 rfl rfl dX1_welcome_20 ?_
      refine z_aload_n (pc := 21) X.1 hl 0 rfl rfl dX1_welcome_21 ?_
      refine z_get3 (pc := 22) X.1 hW h_o iX1_welcome_3 2 (by decide) rfl (by decide +kernel) dX1_welcome_22 ?_
      obtain ⟨q3, eq3, h⟩ := z_bind h
      obtain ⟨g4, h⟩ := z_guard h
      refine z_callV3R (pc := 25) (n := 1) (As := [.int (iO (μ o 2))]) (rest := []) X hW hl h_o (C1_at l N o (μ o 2) h_o μ eq3) gX1_welcome_X1_at rfl (by decide +kernel) rfl (by decide) rfl (Nat.le_of_ble_eq_true rfl) dX1_welcome_25 (fun H locs hW => ?_)
      refine z_astore (pc := 28) (i := 4) X.1 [(4, .ref (ad q3)), (0, .ref (ad o)), (1, .int (iO a0)), (2, .int (iO a1)), (3, .int (iO a2))] hl rfl (by decide) rfl dX1_welcome_28 (fun ls hl => ?_)
      refine z_aload (pc := 30) X.1 hl 0 rfl dX1_welcome_30 ?_
      refine z_aload_n (pc := 32) X.1 hl 1 rfl rfl dX1_welcome_32 ?_
      refine z_get3 (pc := 33) X.1 hW h_o iX1_welcome_3 1 (by decide) rfl (by decide +kernel) dX1_welcome_33 ?_
      obtain ⟨q5, eq5, h⟩ := z_bind h
      refine z_callV5V (pc := 36) (n := 1) (As := [.ref (ad (o + 10))]) (rest := []) X hW hl g4 (C2_takeFrom l N q3 (o + 10) g4 (kd_nob h_o) μ eq5) gX1_welcome_X2_takeFrom rfl (by decide +kernel) rfl (by decide) rfl (Nat.le_of_ble_eq_true rfl) dX1_welcome_36 (fun H locs hW => ?_)
      refine z_aload (pc := 39) X.1 hl 0 rfl dX1_welcome_39 ?_
      refine z_iload_n (pc := 41) X.1 hl 2 rfl rfl dX1_welcome_41 ?_
      obtain ⟨μ6, eμ6, h⟩ := z_bnd h
      refine z_put5_0 (pc := 42) X.1 hW g4 iX1_welcome_5 (by decide +kernel) dX1_welcome_42 (fun H locs hW => ?_)
      rw [← eμ6] at hW
      refine z_aload (pc := 45) X.1 hl 0 rfl dX1_welcome_45 ?_
      refine z_iload_n (pc := 47) X.1 hl 3 rfl rfl dX1_welcome_47 ?_
      obtain ⟨μ7, eμ7, h⟩ := z_bnd h
      refine z_put5_1 (pc := 48) X.1 hW g4 iX1_welcome_5 (by decide +kernel) dX1_welcome_48 (fun H locs hW => ?_)
      rw [← eμ7] at hW
      refine z_aload (pc := 51) X.1 hl 0 rfl dX1_welcome_51 ?_
      refine z_iload_n (pc := 53) X.1 hl 4 rfl rfl dX1_welcome_53 ?_
      obtain ⟨μ8, eμ8, h⟩ := z_bnd h
      refine z_put5_3 (pc := 54) X.1 hW g4 iX1_welcome_5 (by decide +kernel) dX1_welcome_54 (fun H locs hW => ?_)
      rw [← eμ8] at hW
      refine z_aload_n (pc := 57) X.1 hl 1 rfl rfl dX1_welcome_57 ?_
      refine z_dup (pc := 58) X.1 dX1_welcome_58 rfl ?_
      refine z_get3 (pc := 59) X.1 hW h_o iX1_welcome_3 2 (by decide) rfl (by decide +kernel) dX1_welcome_59 ?_
      refine z_iconst (pc := 62) X.1 dX1_welcome_62 ?_
      refine z_iadd (pc := 63) X.1 dX1_welcome_63 ?_
      obtain ⟨μ9, eμ9, h⟩ := z_bnd h
      refine z_put3_2 (pc := 64) X.1 hW h_o iX1_welcome_3 (by decide +kernel) dX1_welcome_64 (fun H locs hW => ?_)
      rw [← eμ9] at hW
      refine z_iconst (pc := 67) X.1 dX1_welcome_67 ?_
      exact z_zret (pc := 68) X hW (by decide) (z_p1 h) (z_p2 h) dX1_welcome_68
    · refine z_iconst (pc := 18) X.1 dX1_welcome_18 ?_
      exact z_zret (pc := 19) X hW (by decide) (z_p1 h) (z_p2 h) dX1_welcome_19
-- X1_issue
theorem iX1_issue_3 : ∀ w ∈ wsX10, w ∈ wsX1_issue := by decide +kernel
theorem iX1_issue_5 : ∀ w ∈ wsX20, w ∈ wsX1_issue := by decide +kernel
theorem C1_issue (l : Launch) {D : va_G} {cy : ClassId × ClassId} {ad : Nat → Nat} (N : Nat) (o : Nat) (a0 : Int) (a1 : Int) (h_o : kd o = 3) (μ : mm) {res : (Int × mm)} (h : M1_issue N o a0 a1 μ = some res) : zI l yX1_issue wsX1_issue 1 D cy ad [.ref (ad o), .int (iO a0), .int (iO a1)] μ res.1 res.2 := by
  refine zI.of RX1 rfl (by decide) rfl (Nat.le_of_ble_eq_true rfl) ?_
  intro p e s m args below meth c A X hW ls hl
  have hl : lv_has ls 3 [(0, .ref (ad o)), (1, .int (iO a0)), (2, .int (iO a1))] := hl
  unfold M1_issue at h
  refine z_aload_n (pc := 0) X.1 hl 0 rfl rfl dX1_issue_0 ?_
  refine z_iload_n (pc := 1) X.1 hl 1 rfl rfl dX1_issue_1 ?_
  obtain ⟨q1, eq1, h⟩ := z_bind h
  refine z_callV3I (pc := 2) (n := 1) (As := [.int (iO a0)]) (rest := []) X hW hl h_o (C1_knows l N o a0 h_o μ eq1) gX1_issue_X1_knows rfl (by decide +kernel) rfl (by decide) rfl (Nat.le_of_ble_eq_true rfl) dX1_issue_2 (fun H locs hW => ?_)
  obtain ⟨g2, h⟩ := z_guard h
  refine z_if_eq (pc := 5) (tgt := 31) X.1 dX1_issue_5 (by decide) g2 h (fun c13 h => ?_) (fun c13 h => ?_)
  · refine z_iconst (pc := 31) X.1 dX1_issue_31 ?_
    exact z_zret (pc := 32) X hW (by decide) (z_p1 h) (z_p2 h) dX1_issue_32
  · refine z_iload_n (pc := 8) X.1 hl 2 rfl rfl dX1_issue_8 ?_
    refine z_aload_n (pc := 9) X.1 hl 0 rfl rfl dX1_issue_9 ?_
    refine z_get3 (pc := 10) X.1 hW h_o iX1_issue_3 3 (by decide) rfl (by decide +kernel) dX1_issue_10 ?_
    obtain ⟨g3, h⟩ := z_guard h
    refine z_icmp_gt (pc := 13) (tgt := 31) X.1 dX1_issue_13 (by decide) ⟨g3.1, g3.2⟩ h (fun c12 h => ?_) (fun c12 h => ?_)
    · refine z_iconst (pc := 31) X.1 dX1_issue_31 ?_
      exact z_zret (pc := 32) X hW (by decide) (z_p1 h) (z_p2 h) dX1_issue_32
    · refine z_aload_n (pc := 16) X.1 hl 0 rfl rfl dX1_issue_16 ?_
      refine z_iload_n (pc := 17) X.1 hl 1 rfl rfl dX1_issue_17 ?_
      obtain ⟨q4, eq4, h⟩ := z_bind h
      obtain ⟨g5, h⟩ := z_guard h
      refine z_callV3R (pc := 18) (n := 1) (As := [.int (iO a0)]) (rest := []) X hW hl h_o (C1_at l N o a0 h_o μ eq4) gX1_issue_X1_at rfl (by decide +kernel) rfl (by decide) rfl (Nat.le_of_ble_eq_true rfl) dX1_issue_18 (fun H locs hW => ?_)
      refine z_get5 (pc := 21) X.1 hW g5 iX1_issue_5 2 (by decide) rfl (by decide +kernel) dX1_issue_21 ?_
      refine z_iload_n (pc := 24) X.1 hl 2 rfl rfl dX1_issue_24 ?_
      refine z_iadd (pc := 25) X.1 dX1_issue_25 ?_
      refine z_bipush (pc := 26) X.1 dX1_issue_26 (by decide) ?_
      obtain ⟨g6, h⟩ := z_guard h
      refine z_icmp_le (pc := 28) (tgt := 33) X.1 dX1_issue_28 (by decide) ⟨g6, (by decide)⟩ h (fun c11 h => ?_) (fun c11 h => ?_)
      · refine z_aload_n (pc := 33) X.1 hl 0 rfl rfl dX1_issue_33 ?_
        refine z_iload_n (pc := 34) X.1 hl 1 rfl rfl dX1_issue_34 ?_
        obtain ⟨q7, eq7, h⟩ := z_bind h
        obtain ⟨g8, h⟩ := z_guard h
        refine z_callV3R (pc := 35) (n := 1) (As := [.int (iO a0)]) (rest := []) X hW hl h_o (C1_at l N o a0 h_o μ eq7) gX1_issue_X1_at rfl (by decide +kernel) rfl (by decide) rfl (Nat.le_of_ble_eq_true rfl) dX1_issue_35 (fun H locs hW => ?_)
        refine z_dup (pc := 38) X.1 dX1_issue_38 rfl ?_
        refine z_get5 (pc := 39) X.1 hW g8 iX1_issue_5 2 (by decide) rfl (by decide +kernel) dX1_issue_39 ?_
        refine z_iload_n (pc := 42) X.1 hl 2 rfl rfl dX1_issue_42 ?_
        refine z_iadd (pc := 43) X.1 dX1_issue_43 ?_
        obtain ⟨μ9, eμ9, h⟩ := z_bnd h
        refine z_put5_2 (pc := 44) X.1 hW g8 iX1_issue_5 (by decide +kernel) dX1_issue_44 (fun H locs hW => ?_)
        rw [← eμ9] at hW
        refine z_aload_n (pc := 47) X.1 hl 0 rfl rfl dX1_issue_47 ?_
        refine z_dup (pc := 48) X.1 dX1_issue_48 rfl ?_
        refine z_get3 (pc := 49) X.1 hW h_o iX1_issue_3 3 (by decide) rfl (by decide +kernel) dX1_issue_49 ?_
        refine z_iload_n (pc := 52) X.1 hl 2 rfl rfl dX1_issue_52 ?_
        refine z_isub (pc := 53) X.1 dX1_issue_53 ?_
        obtain ⟨μ10, eμ10, h⟩ := z_bnd h
        refine z_put3_3 (pc := 54) X.1 hW h_o iX1_issue_3 (by decide +kernel) dX1_issue_54 (fun H locs hW => ?_)
        rw [← eμ10] at hW
        refine z_iconst (pc := 57) X.1 dX1_issue_57 ?_
        exact z_zret (pc := 58) X hW (by decide) (z_p1 h) (z_p2 h) dX1_issue_58
      · refine z_iconst (pc := 31) X.1 dX1_issue_31 ?_
        exact z_zret (pc := 32) X hW (by decide) (z_p1 h) (z_p2 h) dX1_issue_32
-- X1_wear
theorem iX1_wear_3 : ∀ w ∈ wsX10, w ∈ wsX1_wear := by decide +kernel
theorem C1_wear (l : Launch) {D : va_G} {cy : ClassId × ClassId} {ad : Nat → Nat} (N : Nat) (o : Nat) (a0 : Int) (h_o : kd o = 3) (μ : mm) {res : mm} (h : M1_wear N o a0 μ = some res) : zV l yX1_wear wsX1_wear 1 D cy ad [.ref (ad o), .int (iO a0)] μ res := by
  refine zV.of RX1 rfl (by decide) rfl (Nat.le_of_ble_eq_true rfl) ?_
  intro p e s m args below meth c A X hW ls hl
  have hl : lv_has ls 2 [(0, .ref (ad o)), (1, .int (iO a0))] := hl
  unfold M1_wear at h
  refine z_aload_n (pc := 0) X.1 hl 0 rfl rfl dX1_wear_0 ?_
  refine z_aload_n (pc := 1) X.1 hl 0 rfl rfl dX1_wear_1 ?_
  refine z_get3 (pc := 2) X.1 hW h_o iX1_wear_3 4 (by decide) rfl (by decide +kernel) dX1_wear_2 ?_
  refine z_iload_n (pc := 5) X.1 hl 1 rfl rfl dX1_wear_5 ?_
  refine z_iadd (pc := 6) X.1 dX1_wear_6 ?_
  refine z_sipush (pc := 7) X.1 dX1_wear_7 (by decide) ?_
  obtain ⟨g1, h⟩ := z_guard h
  refine z_min (pc := 10) X hl ⟨g1, (by decide)⟩ (by decide +kernel) (by decide +kernel) (by decide +kernel) (by decide +kernel) (by decide) (Nat.le_of_ble_eq_true rfl) dX1_wear_10 ?_
  obtain ⟨μ2, eμ2, h⟩ := z_bnd h
  refine z_put3_4 (pc := 13) X.1 hW h_o iX1_wear_3 (by decide +kernel) dX1_wear_13 (fun H locs hW => ?_)
  rw [← eμ2] at hW
  exact z_vret (pc := 16) X hW (Option.some.inj h) dX1_wear_16
-- X1_handIn
theorem iX1_handIn_3 : ∀ w ∈ wsX10, w ∈ wsX1_handIn := by decide +kernel
theorem iX1_handIn_5 : ∀ w ∈ wsX20, w ∈ wsX1_handIn := by decide +kernel
theorem C1_handIn (l : Launch) {D : va_G} {cy : ClassId × ClassId} {ad : Nat → Nat} (N : Nat) (o : Nat) (a0 : Int) (h_o : kd o = 3) (μ : mm) {res : (Int × mm)} (h : M1_handIn N o a0 μ = some res) : zI l yX1_handIn wsX1_handIn 2 D cy ad [.ref (ad o), .int (iO a0)] μ res.1 res.2 := by
  refine zI.of RX1 rfl (by decide) rfl (Nat.le_of_ble_eq_true rfl) ?_
  intro p e s m args below meth c A X hW ls hl
  have hl : lv_has ls 3 [(0, .ref (ad o)), (1, .int (iO a0))] := hl
  unfold M1_handIn at h
  refine z_aload_n (pc := 0) X.1 hl 0 rfl rfl dX1_handIn_0 ?_
  refine z_iload_n (pc := 1) X.1 hl 1 rfl rfl dX1_handIn_1 ?_
  obtain ⟨q1, eq1, h⟩ := z_bind h
  refine z_callV3I (pc := 2) (n := 1) (As := [.int (iO a0)]) (rest := []) X hW hl h_o (C1_knows l N o a0 h_o μ eq1) gX1_handIn_X1_knows rfl (by decide +kernel) rfl (by decide) rfl (Nat.le_of_ble_eq_true rfl) dX1_handIn_2 (fun H locs hW => ?_)
  obtain ⟨g2, h⟩ := z_guard h
  refine z_if_ne (pc := 5) (tgt := 10) X.1 dX1_handIn_5 (by decide) g2 h (fun c12 h => ?_) (fun c12 h => ?_)
  · refine z_aload_n (pc := 10) X.1 hl 0 rfl rfl dX1_handIn_10 ?_
    refine z_get3 (pc := 11) X.1 hW h_o iX1_handIn_3 3 (by decide) rfl (by decide +kernel) dX1_handIn_11 ?_
    refine z_aload_n (pc := 14) X.1 hl 0 rfl rfl dX1_handIn_14 ?_
    refine z_iload_n (pc := 15) X.1 hl 1 rfl rfl dX1_handIn_15 ?_
    obtain ⟨q3, eq3, h⟩ := z_bind h
    obtain ⟨g4, h⟩ := z_guard h
    refine z_callV3R (pc := 16) (n := 1) (As := [.int (iO a0)]) (rest := [.int (iO (μ o 3))]) X hW hl h_o (C1_at l N o a0 h_o μ eq3) gX1_handIn_X1_at rfl (by decide +kernel) rfl (by decide) rfl (Nat.le_of_ble_eq_true rfl) dX1_handIn_16 (fun H locs hW => ?_)
    refine z_get5 (pc := 19) X.1 hW g4 iX1_handIn_5 2 (by decide) rfl (by decide +kernel) dX1_handIn_19 ?_
    refine z_iadd (pc := 22) X.1 dX1_handIn_22 ?_
    obtain ⟨w5, ew5, h⟩ := z_bnd h
    refine z_istore_n (pc := 23) (i := 2) X.1 [(2, .int (iO w5)), (0, .ref (ad o)), (1, .int (iO a0))] hl ew5 rfl (by decide) rfl dX1_handIn_23 (fun ls hl => ?_)
    refine z_aload_n (pc := 24) X.1 hl 1 rfl rfl dX1_handIn_24 ?_
    refine z_iload_n (pc := 25) X.1 hl 2 rfl rfl dX1_handIn_25 ?_
    obtain ⟨q6, eq6, h⟩ := z_bind h
    obtain ⟨g7, h⟩ := z_guard h
    refine z_callV3R (pc := 26) (n := 1) (As := [.int (iO a0)]) (rest := []) X hW hl h_o (C1_at l N o a0 h_o μ eq6) gX1_handIn_X1_at rfl (by decide +kernel) rfl (by decide) rfl (Nat.le_of_ble_eq_true rfl) dX1_handIn_26 (fun H locs hW => ?_)
    refine z_iconst (pc := 29) X.1 dX1_handIn_29 ?_
    obtain ⟨μ8, eμ8, h⟩ := z_bnd h
    refine z_put5_2 (pc := 30) X.1 hW g7 iX1_handIn_5 (by decide +kernel) dX1_handIn_30 (fun H locs hW => ?_)
    rw [← eμ8] at hW
    refine z_aload_n (pc := 33) X.1 hl 1 rfl rfl dX1_handIn_33 ?_
    refine z_iload_n (pc := 34) X.1 hl 0 rfl rfl dX1_handIn_34 ?_
    refine z_sipush (pc := 35) X.1 dX1_handIn_35 (by decide) ?_
    obtain ⟨g9, h⟩ := z_guard h
    refine z_min (pc := 38) X hl ⟨g9, (by decide)⟩ (by decide +kernel) (by decide +kernel) (by decide +kernel) (by decide +kernel) (by decide) (Nat.le_of_ble_eq_true rfl) dX1_handIn_38 ?_
    obtain ⟨μ10, eμ10, h⟩ := z_bnd h
    refine z_put3_3 (pc := 41) X.1 hW h_o iX1_handIn_3 (by decide +kernel) dX1_handIn_41 (fun H locs hW => ?_)
    rw [← eμ10] at hW
    refine z_aload_n (pc := 44) X.1 hl 1 rfl rfl dX1_handIn_44 ?_
    refine z_iload_n (pc := 45) X.1 hl 0 rfl rfl dX1_handIn_45 ?_
    refine z_aload_n (pc := 46) X.1 hl 1 rfl rfl dX1_handIn_46 ?_
    refine z_get3 (pc := 47) X.1 hW h_o iX1_handIn_3 3 (by decide) rfl (by decide +kernel) dX1_handIn_47 ?_
    refine z_isub (pc := 50) X.1 dX1_handIn_50 ?_
    obtain ⟨q11, eq11, h⟩ := z_bind h
    refine z_callV3V (pc := 51) (n := 1) (As := [.int (iO (w5 - (μ10 o 3)))]) (rest := []) X hW hl h_o (C1_wear l N o (w5 - (μ10 o 3)) h_o μ10 eq11) gX1_handIn_X1_wear rfl (by decide +kernel) rfl (by decide) rfl (Nat.le_of_ble_eq_true rfl) dX1_handIn_51 (fun H locs hW => ?_)
    refine z_iconst (pc := 54) X.1 dX1_handIn_54 ?_
    exact z_zret (pc := 55) X hW (by decide) (z_p1 h) (z_p2 h) dX1_handIn_55
  · refine z_iconst (pc := 8) X.1 dX1_handIn_8 ?_
    exact z_zret (pc := 9) X hW (by decide) (z_p1 h) (z_p2 h) dX1_handIn_9
-- X1_setDue
theorem iX1_setDue_5 : ∀ w ∈ wsX20, w ∈ wsX1_setDue := by decide +kernel
theorem C1_setDue (l : Launch) {D : va_G} {cy : ClassId × ClassId} {ad : Nat → Nat} (N : Nat) (o : Nat) (a0 : Int) (a1 : Int) (h_o : kd o = 3) (μ : mm) {res : (Int × mm)} (h : M1_setDue N o a0 a1 μ = some res) : zI l yX1_setDue wsX1_setDue 1 D cy ad [.ref (ad o), .int (iO a0), .int (iO a1)] μ res.1 res.2 := by
  refine zI.of RX1 rfl (by decide) rfl (Nat.le_of_ble_eq_true rfl) ?_
  intro p e s m args below meth c A X hW ls hl
  have hl : lv_has ls 3 [(0, .ref (ad o)), (1, .int (iO a0)), (2, .int (iO a1))] := hl
  unfold M1_setDue at h
  refine z_aload_n (pc := 0) X.1 hl 0 rfl rfl dX1_setDue_0 ?_
  refine z_iload_n (pc := 1) X.1 hl 1 rfl rfl dX1_setDue_1 ?_
  obtain ⟨q1, eq1, h⟩ := z_bind h
  refine z_callV3I (pc := 2) (n := 1) (As := [.int (iO a0)]) (rest := []) X hW hl h_o (C1_knows l N o a0 h_o μ eq1) gX1_setDue_X1_knows rfl (by decide +kernel) rfl (by decide) rfl (Nat.le_of_ble_eq_true rfl) dX1_setDue_2 (fun H locs hW => ?_)
  obtain ⟨g2, h⟩ := z_guard h
  refine z_if_eq (pc := 5) (tgt := 14) X.1 dX1_setDue_5 (by decide) g2 h (fun c8 h => ?_) (fun c8 h => ?_)
  · refine z_iconst (pc := 14) X.1 dX1_setDue_14 ?_
    exact z_zret (pc := 15) X hW (by decide) (z_p1 h) (z_p2 h) dX1_setDue_15
  · refine z_iload_n (pc := 8) X.1 hl 2 rfl rfl dX1_setDue_8 ?_
    refine z_bipush (pc := 9) X.1 dX1_setDue_9 (by decide) ?_
    obtain ⟨g3, h⟩ := z_guard h
    refine z_icmp_le (pc := 11) (tgt := 16) X.1 dX1_setDue_11 (by decide) ⟨g3, (by decide)⟩ h (fun c7 h => ?_) (fun c7 h => ?_)
    · refine z_aload_n (pc := 16) X.1 hl 0 rfl rfl dX1_setDue_16 ?_
      refine z_iload_n (pc := 17) X.1 hl 1 rfl rfl dX1_setDue_17 ?_
      obtain ⟨q4, eq4, h⟩ := z_bind h
      obtain ⟨g5, h⟩ := z_guard h
      refine z_callV3R (pc := 18) (n := 1) (As := [.int (iO a0)]) (rest := []) X hW hl h_o (C1_at l N o a0 h_o μ eq4) gX1_setDue_X1_at rfl (by decide +kernel) rfl (by decide) rfl (Nat.le_of_ble_eq_true rfl) dX1_setDue_18 (fun H locs hW => ?_)
      refine z_iload_n (pc := 21) X.1 hl 2 rfl rfl dX1_setDue_21 ?_
      obtain ⟨μ6, eμ6, h⟩ := z_bnd h
      refine z_put5_3 (pc := 22) X.1 hW g5 iX1_setDue_5 (by decide +kernel) dX1_setDue_22 (fun H locs hW => ?_)
      rw [← eμ6] at hW
      refine z_iconst (pc := 25) X.1 dX1_setDue_25 ?_
      exact z_zret (pc := 26) X hW (by decide) (z_p1 h) (z_p2 h) dX1_setDue_26
    · refine z_iconst (pc := 14) X.1 dX1_setDue_14 ?_
      exact z_zret (pc := 15) X hW (by decide) (z_p1 h) (z_p2 h) dX1_setDue_15
-- X1_fill
theorem iX1_fill_3 : ∀ w ∈ wsX10, w ∈ wsX1_fill := by decide +kernel
theorem C1_fill (l : Launch) {D : va_G} {cy : ClassId × ClassId} {ad : Nat → Nat} (N : Nat) (o : Nat) (a0 : Int) (h_o : kd o = 3) (μ : mm) {res : (Int × mm)} (h : M1_fill N o a0 μ = some res) : zI l yX1_fill wsX1_fill 0 D cy ad [.ref (ad o), .int (iO a0)] μ res.1 res.2 := by
  refine zI.of RX1 rfl (by decide) rfl (Nat.le_of_ble_eq_true rfl) ?_
  intro p e s m args below meth c A X hW ls hl
  have hl : lv_has ls 2 [(0, .ref (ad o)), (1, .int (iO a0))] := hl
  unfold M1_fill at h
  refine z_aload_n (pc := 0) X.1 hl 0 rfl rfl dX1_fill_0 ?_
  refine z_get3 (pc := 1) X.1 hW h_o iX1_fill_3 3 (by decide) rfl (by decide +kernel) dX1_fill_1 ?_
  refine z_iload_n (pc := 4) X.1 hl 1 rfl rfl dX1_fill_4 ?_
  refine z_iadd (pc := 5) X.1 dX1_fill_5 ?_
  refine z_sipush (pc := 6) X.1 dX1_fill_6 (by decide) ?_
  obtain ⟨g1, h⟩ := z_guard h
  refine z_icmp_le (pc := 9) (tgt := 14) X.1 dX1_fill_9 (by decide) ⟨g1, (by decide)⟩ h (fun c3 h => ?_) (fun c3 h => ?_)
  · refine z_aload_n (pc := 14) X.1 hl 0 rfl rfl dX1_fill_14 ?_
    refine z_dup (pc := 15) X.1 dX1_fill_15 rfl ?_
    refine z_get3 (pc := 16) X.1 hW h_o iX1_fill_3 3 (by decide) rfl (by decide +kernel) dX1_fill_16 ?_
    refine z_iload_n (pc := 19) X.1 hl 1 rfl rfl dX1_fill_19 ?_
    refine z_iadd (pc := 20) X.1 dX1_fill_20 ?_
    obtain ⟨μ2, eμ2, h⟩ := z_bnd h
    refine z_put3_3 (pc := 21) X.1 hW h_o iX1_fill_3 (by decide +kernel) dX1_fill_21 (fun H locs hW => ?_)
    rw [← eμ2] at hW
    refine z_iconst (pc := 24) X.1 dX1_fill_24 ?_
    exact z_zret (pc := 25) X hW (by decide) (z_p1 h) (z_p2 h) dX1_fill_25
  · refine z_iconst (pc := 12) X.1 dX1_fill_12 ?_
    exact z_zret (pc := 13) X hW (by decide) (z_p1 h) (z_p2 h) dX1_fill_13
-- X2_oneDay
theorem iX2_oneDay_5 : ∀ w ∈ wsX20, w ∈ wsX2_oneDay := by decide +kernel
section
variable {p : Program} {l : Launch} {e : Env} {s : State} {m : MethodId} {args : Array Value} {below : List Frame} {meth : Method} {c : Code} {D : va_G} {cy : ClassId × ClassId} {ad : Nat → Nat} {A : Nat → Prop} {res : (Int × mm)}
theorem CJ2_oneDay_131 (X : zX p s m args meth c cX2_oneDay RX2 wsX2_oneDay 3 D cy ad (some .int) A) (N : Nat) : ∀ (r0 : Nat) (x2 : Int) (hk_r0 : kd r0 = 5) (μ : mm), J2_oneDay_131 N r0 x2 μ = some res → ∀ (H : Heap) (locs : List Loc) (ls : Array Slot), zW D cy ad A s.heap μ H locs → lv_has ls 3 [(0, .ref (ad r0)), (2, .int (iO x2))] → W p l e (rmD 1) s m args below meth c H locs 0 0 (MQ below (zQi D cy ad A res.1 res.2) args s 0 0 A) (F0 m 131 ls []) := by
  intro r0 x2 hk_r0 μ h H locs ls hW hl
  rw [J2_oneDay_131] at h
  refine z_aload_n (pc := 131) X.1 hl 0 rfl rfl dX2_oneDay_131 ?_
  refine z_aload_n (pc := 132) X.1 hl 0 rfl rfl dX2_oneDay_132 ?_
  refine z_get5 (pc := 133) X.1 hW hk_r0 iX2_oneDay_5 0 (by decide) rfl (by decide +kernel) dX2_oneDay_133 ?_
  obtain ⟨q9, eq9, h⟩ := z_bind h
  refine z_callSI (pc := 136) (n := 1) (As := [.int (iO (μ r0 0))]) (rest := [.ref (ad r0)]) X hW hl (C0_nextIn l N (μ r0 0) μ eq9) gX2_oneDay_X0_nextIn rfl (by decide +kernel) rfl (by decide) rfl (Nat.le_of_ble_eq_true rfl) dX2_oneDay_136 (fun H locs hW => ?_)
  obtain ⟨μ10, eμ10, h⟩ := z_bnd h
  refine z_put5_3 (pc := 139) X.1 hW hk_r0 iX2_oneDay_5 (by decide +kernel) dX2_oneDay_139 (fun H locs hW => ?_)
  rw [← eμ10] at hW
  refine z_iload_n (pc := 142) X.1 hl 1 rfl rfl dX2_oneDay_142 ?_
  exact z_iret (pc := 143) X hW (z_p1 h) (z_p2 h) dX2_oneDay_143
end
theorem C2_oneDay (l : Launch) {D : va_G} {cy : ClassId × ClassId} {ad : Nat → Nat} (N : Nat) (o : Nat) (h_o : kd o = 5) (μ : mm) {res : (Int × mm)} (h : M2_oneDay N o μ = some res) : zI l yX2_oneDay wsX2_oneDay 1 D cy ad [.ref (ad o)] μ res.1 res.2 := by
  refine zI.of RX2 rfl (by decide) rfl (Nat.le_of_ble_eq_true rfl) ?_
  intro p e s m args below meth c A X hW ls hl
  have hl : lv_has ls 3 [(0, .ref (ad o))] := hl
  unfold M2_oneDay at h
  refine z_aload_n (pc := 0) X.1 hl 0 rfl rfl dX2_oneDay_0 ?_
  refine z_get5 (pc := 1) X.1 hW h_o iX2_oneDay_5 3 (by decide) rfl (by decide +kernel) dX2_oneDay_1 ?_
  obtain ⟨g1, h⟩ := z_guard h
  refine z_if_ne (pc := 4) (tgt := 9) X.1 dX2_oneDay_4 (by decide) g1 h (fun c20 h => ?_) (fun c20 h => ?_)
  · refine z_aload_n (pc := 9) X.1 hl 0 rfl rfl dX2_oneDay_9 ?_
    refine z_dup (pc := 10) X.1 dX2_oneDay_10 rfl ?_
    refine z_get5 (pc := 11) X.1 hW h_o iX2_oneDay_5 3 (by decide) rfl (by decide +kernel) dX2_oneDay_11 ?_
    refine z_iconst (pc := 14) X.1 dX2_oneDay_14 ?_
    refine z_isub (pc := 15) X.1 dX2_oneDay_15 ?_
    obtain ⟨μ2, eμ2, h⟩ := z_bnd h
    refine z_put5_3 (pc := 16) X.1 hW h_o iX2_oneDay_5 (by decide +kernel) dX2_oneDay_16 (fun H locs hW => ?_)
    rw [← eμ2] at hW
    refine z_aload_n (pc := 19) X.1 hl 0 rfl rfl dX2_oneDay_19 ?_
    refine z_get5 (pc := 20) X.1 hW h_o iX2_oneDay_5 3 (by decide) rfl (by decide +kernel) dX2_oneDay_20 ?_
    obtain ⟨g3, h⟩ := z_guard h
    refine z_if_le (pc := 23) (tgt := 28) X.1 dX2_oneDay_23 (by decide) g3 h (fun c19 h => ?_) (fun c19 h => ?_)
    · refine z_aload_n (pc := 28) X.1 hl 0 rfl rfl dX2_oneDay_28 ?_
      refine z_get5 (pc := 29) X.1 hW h_o iX2_oneDay_5 0 (by decide) rfl (by decide +kernel) dX2_oneDay_29 ?_
      refine z_aload_n (pc := 32) X.1 hl 0 rfl rfl dX2_oneDay_32 ?_
      refine z_get5 (pc := 33) X.1 hW h_o iX2_oneDay_5 1 (by decide) rfl (by decide +kernel) dX2_oneDay_33 ?_
      obtain ⟨q4, eq4, h⟩ := z_bind h
      refine z_callSI (pc := 36) (n := 2) (As := [.int (iO (μ2 o 0)), .int (iO (μ2 o 1))]) (rest := []) X hW hl (C0_needs l N (μ2 o 0) (μ2 o 1) μ2 eq4) gX2_oneDay_X0_needs rfl (by decide +kernel) rfl (by decide) rfl (Nat.le_of_ble_eq_true rfl) dX2_oneDay_36 (fun H locs hW => ?_)
      refine z_istore_n (pc := 39) (i := 1) X.1 [(1, .int (iO q4)), (0, .ref (ad o))] hl rfl rfl (by decide) rfl dX2_oneDay_39 (fun ls hl => ?_)
      refine z_iconst (pc := 40) X.1 dX2_oneDay_40 ?_
      refine z_istore_n (pc := 41) (i := 2) X.1 [(2, .int (iO 0)), (1, .int (iO q4)), (0, .ref (ad o))] hl rfl rfl (by decide) rfl dX2_oneDay_41 (fun ls hl => ?_)
      refine z_aload_n (pc := 42) X.1 hl 2 rfl rfl dX2_oneDay_42 ?_
      refine z_get5 (pc := 43) X.1 hW h_o iX2_oneDay_5 2 (by decide) rfl (by decide +kernel) dX2_oneDay_43 ?_
      refine z_iload_n (pc := 46) X.1 hl 1 rfl rfl dX2_oneDay_46 ?_
      obtain ⟨g5, h⟩ := z_guard h
      refine z_icmp_lt (pc := 47) (tgt := 105) X.1 dX2_oneDay_47 (by decide) ⟨g5.1, g5.2⟩ h (fun c18 h => ?_) (fun c18 h => ?_)
      · refine z_aload_n (pc := 105) X.1 hl 2 rfl rfl dX2_oneDay_105 ?_
        refine z_dup (pc := 106) X.1 dX2_oneDay_106 rfl ?_
        refine z_get5 (pc := 107) X.1 hW h_o iX2_oneDay_5 7 (by decide) rfl (by decide +kernel) dX2_oneDay_107 ?_
        refine z_iconst (pc := 110) X.1 dX2_oneDay_110 ?_
        refine z_iadd (pc := 111) X.1 dX2_oneDay_111 ?_
        obtain ⟨μ6, eμ6, h⟩ := z_bnd h
        refine z_put5_7 (pc := 112) X.1 hW h_o iX2_oneDay_5 (by decide +kernel) dX2_oneDay_112 (fun H locs hW => ?_)
        rw [← eμ6] at hW
        refine z_aload_n (pc := 115) X.1 hl 2 rfl rfl dX2_oneDay_115 ?_
        refine z_aload_n (pc := 116) X.1 hl 2 rfl rfl dX2_oneDay_116 ?_
        refine z_get5 (pc := 117) X.1 hW h_o iX2_oneDay_5 5 (by decide) rfl (by decide +kernel) dX2_oneDay_117 ?_
        refine z_iconst (pc := 120) X.1 dX2_oneDay_120 ?_
        refine z_iadd (pc := 121) X.1 dX2_oneDay_121 ?_
        refine z_sipush (pc := 122) X.1 dX2_oneDay_122 (by decide) ?_
        obtain ⟨g7, h⟩ := z_guard h
        refine z_min (pc := 125) X hl ⟨g7, (by decide)⟩ (by decide +kernel) (by decide +kernel) (by decide +kernel) (by decide +kernel) (by decide) (Nat.le_of_ble_eq_true rfl) dX2_oneDay_125 ?_
        obtain ⟨μ8, eμ8, h⟩ := z_bnd h
        refine z_put5_5 (pc := 128) X.1 hW h_o iX2_oneDay_5 (by decide +kernel) dX2_oneDay_128 (fun H locs hW => ?_)
        rw [← eμ8] at hW
        exact CJ2_oneDay_131 X N o 0 h_o μ8 h _ _ ls hW (lv_sub hl [2, 0] rfl)
      · refine z_aload_n (pc := 50) X.1 hl 2 rfl rfl dX2_oneDay_50 ?_
        refine z_dup (pc := 51) X.1 dX2_oneDay_51 rfl ?_
        refine z_get5 (pc := 52) X.1 hW h_o iX2_oneDay_5 6 (by decide) rfl (by decide +kernel) dX2_oneDay_52 ?_
        refine z_iconst (pc := 55) X.1 dX2_oneDay_55 ?_
        refine z_iadd (pc := 56) X.1 dX2_oneDay_56 ?_
        obtain ⟨μ11, eμ11, h⟩ := z_bnd h
        refine z_put5_6 (pc := 57) X.1 hW h_o iX2_oneDay_5 (by decide +kernel) dX2_oneDay_57 (fun H locs hW => ?_)
        rw [← eμ11] at hW
        refine z_aload_n (pc := 60) X.1 hl 2 rfl rfl dX2_oneDay_60 ?_
        refine z_aload_n (pc := 61) X.1 hl 2 rfl rfl dX2_oneDay_61 ?_
        refine z_get5 (pc := 62) X.1 hW h_o iX2_oneDay_5 4 (by decide) rfl (by decide +kernel) dX2_oneDay_62 ?_
        refine z_iconst (pc := 65) X.1 dX2_oneDay_65 ?_
        refine z_iadd (pc := 66) X.1 dX2_oneDay_66 ?_
        refine z_sipush (pc := 67) X.1 dX2_oneDay_67 (by decide) ?_
        obtain ⟨g12, h⟩ := z_guard h
        refine z_min (pc := 70) X hl ⟨g12, (by decide)⟩ (by decide +kernel) (by decide +kernel) (by decide +kernel) (by decide +kernel) (by decide) (Nat.le_of_ble_eq_true rfl) dX2_oneDay_70 ?_
        obtain ⟨μ13, eμ13, h⟩ := z_bnd h
        refine z_put5_4 (pc := 73) X.1 hW h_o iX2_oneDay_5 (by decide +kernel) dX2_oneDay_73 (fun H locs hW => ?_)
        rw [← eμ13] at hW
        refine z_aload_n (pc := 76) X.1 hl 2 rfl rfl dX2_oneDay_76 ?_
        refine z_get5 (pc := 77) X.1 hW h_o iX2_oneDay_5 0 (by decide) rfl (by decide +kernel) dX2_oneDay_77 ?_
        refine z_iload_n (pc := 80) X.1 hl 1 rfl rfl dX2_oneDay_80 ?_
        obtain ⟨q14, eq14, h⟩ := z_bind h
        refine z_callSI (pc := 81) (n := 2) (As := [.int (iO (μ13 o 0)), .int (iO q4)]) (rest := []) X hW hl (C0_wears l N (μ13 o 0) q4 μ13 eq14) gX2_oneDay_X0_wears rfl (by decide +kernel) rfl (by decide) rfl (Nat.le_of_ble_eq_true rfl) dX2_oneDay_81 (fun H locs hW => ?_)
        refine z_aload_n (pc := 84) X.1 hl 2 rfl rfl dX2_oneDay_84 ?_
        refine z_get5 (pc := 85) X.1 hW h_o iX2_oneDay_5 2 (by decide) rfl (by decide +kernel) dX2_oneDay_85 ?_
        obtain ⟨g15, h⟩ := z_guard h
        refine z_min (pc := 88) X hl ⟨g15.1, g15.2⟩ (by decide +kernel) (by decide +kernel) (by decide +kernel) (by decide +kernel) (by decide) (Nat.le_of_ble_eq_true rfl) dX2_oneDay_88 ?_
        obtain ⟨w16, ew16, h⟩ := z_bnd h
        refine z_istore_n (pc := 91) (i := 2) X.1 [(2, .int (iO w16)), (1, .int (iO q4)), (0, .ref (ad o))] hl ew16 rfl (by decide) rfl dX2_oneDay_91 (fun ls hl => ?_)
        refine z_aload_n (pc := 92) X.1 hl 2 rfl rfl dX2_oneDay_92 ?_
        refine z_dup (pc := 93) X.1 dX2_oneDay_93 rfl ?_
        refine z_get5 (pc := 94) X.1 hW h_o iX2_oneDay_5 2 (by decide) rfl (by decide +kernel) dX2_oneDay_94 ?_
        refine z_iload_n (pc := 97) X.1 hl 0 rfl rfl dX2_oneDay_97 ?_
        refine z_isub (pc := 98) X.1 dX2_oneDay_98 ?_
        obtain ⟨μ17, eμ17, h⟩ := z_bnd h
        refine z_put5_2 (pc := 99) X.1 hW h_o iX2_oneDay_5 (by decide +kernel) dX2_oneDay_99 (fun H locs hW => ?_)
        rw [← eμ17] at hW
        refine z_goto (pc := 102) (tgt := 131) X.1 dX2_oneDay_102 (by decide) ?_
        exact CJ2_oneDay_131 X N o w16 h_o μ17 h _ _ ls hW (lv_sub hl [2, 0] rfl)
    · refine z_iconst (pc := 26) X.1 dX2_oneDay_26 ?_
      exact z_iret (pc := 27) X hW (z_p1 h) (z_p2 h) dX2_oneDay_27
  · refine z_iconst (pc := 7) X.1 dX2_oneDay_7 ?_
    exact z_iret (pc := 8) X hW (z_p1 h) (z_p2 h) dX2_oneDay_8
