-- X4_borrow
theorem iX4_borrow_3 : ∀ w ∈ wsX10, w ∈ wsX4_borrow := by decide +kernel
theorem iX4_borrow_5 : ∀ w ∈ wsX20, w ∈ wsX4_borrow := by decide +kernel
theorem iX4_borrow_7 : ∀ w ∈ wsX40, w ∈ wsX4_borrow := by decide +kernel
section
variable {p : Program} {l : Launch} {e : Env} {s : State} {m : MethodId} {args : Array Value} {below : List Frame} {meth : Method} {c : Code} {D : va_G} {cy : ClassId × ClassId} {ad : Nat → Nat} {A : Nat → Prop} {res : (Int × mm)}
theorem CJ4_borrow_187 (X : zX p s m args meth c cX4_borrow RX4 wsX4_borrow 12 D cy ad (some .int) A) (N : Nat) (rec103 : Int → Int → Int → Int → Int → Int → Int → mm → Option (Int × mm)) (hrec103 : ∀ (x1 : Int) (x2 : Int) (x5 : Int) (x6 : Int) (x7 : Int) (x8 : Int) (x9 : Int) (μ : mm), rec103 x1 x2 x5 x6 x7 x8 x9 μ = some res → ∀ (H : Heap) (locs : List Loc) (ls : Array Slot), zW D cy ad A s.heap μ H locs → lv_has ls 12 [(0, .ref (ad 9)), (1, .int (iO x1)), (2, .int (iO x2)), (5, .int (iO x5)), (6, .int (iO x6)), (7, .int (iO x7)), (8, .int (iO x8)), (9, .int (iO x9))] → W p l e (rmD 4) s m args below meth c H locs 0 0 (MQ below (zQi D cy ad A res.1 res.2) args s 0 0 A) (F0 m 103 ls [])) : ∀ (x1 : Int) (x2 : Int) (x5 : Int) (x6 : Int) (x7 : Int) (x8 : Int) (x9 : Int) (μ : mm), J4_borrow_187 N rec103 x1 x2 x5 x6 x7 x8 x9 μ = some res → ∀ (H : Heap) (locs : List Loc) (ls : Array Slot), zW D cy ad A s.heap μ H locs → lv_has ls 12 [(0, .ref (ad 9)), (1, .int (iO x1)), (2, .int (iO x2)), (5, .int (iO x5)), (6, .int (iO x6)), (7, .int (iO x7)), (8, .int (iO x8)), (9, .int (iO x9))] → W p l e (rmD 4) s m args below meth c H locs 0 0 (MQ below (zQi D cy ad A res.1 res.2) args s 0 0 A) (F0 m 187 ls []) := by
  intro x1 x2 x5 x6 x7 x8 x9 μ h H locs ls hW hl
  rw [J4_borrow_187] at h
  refine z_iinc (pc := 187) (i := 9) X.1 [(9, .int (iO (x9 + 1))), (0, .ref (ad 9)), (1, .int (iO x1)), (2, .int (iO x2)), (5, .int (iO x5)), (6, .int (iO x6)), (7, .int (iO x7)), (8, .int (iO x8))] hl 7 rfl rfl (by decide) rfl dX4_borrow_187 (fun ls hl => ?_)
  refine z_goto (pc := 190) (tgt := 103) X.1 dX4_borrow_190 (by decide) ?_
  exact hrec103 x1 x2 x5 x6 x7 x8 (x9 + 1) μ h _ _ ls hW (lv_sub hl [1, 2, 3, 4, 5, 6, 7, 0] rfl)
theorem CL4_borrow_103 (X : zX p s m args meth c cX4_borrow RX4 wsX4_borrow 12 D cy ad (some .int) A) (N : Nat) : ∀ (k : Nat) (x1 : Int) (x2 : Int) (x5 : Int) (x6 : Int) (x7 : Int) (x8 : Int) (x9 : Int) (μ : mm), L4_borrow_103 N k x1 x2 x5 x6 x7 x8 x9 μ = some res → ∀ (H : Heap) (locs : List Loc) (ls : Array Slot), zW D cy ad A s.heap μ H locs → lv_has ls 12 [(0, .ref (ad 9)), (1, .int (iO x1)), (2, .int (iO x2)), (5, .int (iO x5)), (6, .int (iO x6)), (7, .int (iO x7)), (8, .int (iO x8)), (9, .int (iO x9))] → W p l e (rmD 4) s m args below meth c H locs 0 0 (MQ below (zQi D cy ad A res.1 res.2) args s 0 0 A) (F0 m 103 ls []) := by
  intro k
  induction k with
  | zero =>
    intro x1 x2 x5 x6 x7 x8 x9 μ h H locs ls hW hl
    exact absurd h (by rw [L4_borrow_103]; exact fun z => by cases z)
  | succ k ih =>
    intro x1 x2 x5 x6 x7 x8 x9 μ h H locs ls hW hl
    rw [L4_borrow_103] at h
    refine z_iload (pc := 103) X.1 hl 7 rfl dX4_borrow_103 ?_
    refine z_aload_n (pc := 105) X.1 hl 0 rfl rfl dX4_borrow_105 ?_
    refine z_get7 (pc := 106) X.1 hW rfl iX4_borrow_7 0 (by decide) rfl (by decide +kernel) dX4_borrow_106 ?_
    refine z_get3 (pc := 109) X.1 hW rfl iX4_borrow_3 2 (by decide) rfl (by decide +kernel) dX4_borrow_109 ?_
    obtain ⟨g16, h⟩ := z_guard h
    refine z_icmp_ge (pc := 112) (tgt := 193) X.1 dX4_borrow_112 (by decide) ⟨g16.1, g16.2⟩ h (fun c29 h => ?_) (fun c29 h => ?_)
    · refine z_iload (pc := 193) X.1 hl 5 rfl dX4_borrow_193 ?_
      exact z_iret (pc := 195) X hW (z_p1 h) (z_p2 h) dX4_borrow_195
    · refine z_aload_n (pc := 115) X.1 hl 0 rfl rfl dX4_borrow_115 ?_
      refine z_get7 (pc := 116) X.1 hW rfl iX4_borrow_7 0 (by decide) rfl (by decide +kernel) dX4_borrow_116 ?_
      refine z_iload (pc := 119) X.1 hl 7 rfl dX4_borrow_119 ?_
      obtain ⟨q17, eq17, h⟩ := z_bind h
      obtain ⟨g18, h⟩ := z_guard h
      refine z_callV3R (pc := 121) (n := 1) (As := [.int (iO x9)]) (rest := []) X hW hl rfl (C1_at l N 10 x9 rfl μ eq17) gX4_borrow_X1_at rfl (by decide +kernel) rfl (by decide) rfl (Nat.le_of_ble_eq_true rfl) dX4_borrow_121 (fun H locs hW => ?_)
      refine z_get5 (pc := 124) X.1 hW g18 iX4_borrow_5 2 (by decide) rfl (by decide +kernel) dX4_borrow_124 ?_
      obtain ⟨w19, ew19, h⟩ := z_bnd h
      refine z_istore (pc := 127) (i := 10) X.1 [(10, .int (iO w19)), (0, .ref (ad 9)), (1, .int (iO x1)), (2, .int (iO x2)), (5, .int (iO x5)), (6, .int (iO x6)), (7, .int (iO x7)), (8, .int (iO x8)), (9, .int (iO x9))] hl ew19 (by decide) rfl dX4_borrow_127 (fun ls hl => ?_)
      refine z_iload (pc := 129) X.1 hl 8 rfl dX4_borrow_129 ?_
      refine z_iload_n (pc := 131) X.1 hl 2 rfl rfl dX4_borrow_131 ?_
      obtain ⟨g20, h⟩ := z_guard h
      refine z_icmp_eq (pc := 132) (tgt := 187) X.1 dX4_borrow_132 (by decide) ⟨g20.1, g20.2⟩ h (fun c28 h => ?_) (fun c28 h => ?_)
      · exact CJ4_borrow_187 X N (L4_borrow_103 N k) ih x1 x2 x5 x6 x7 x8 x9 μ h _ _ ls hW (lv_sub hl [1, 2, 3, 4, 5, 6, 7, 8] rfl)
      · refine z_iload (pc := 135) X.1 hl 0 rfl dX4_borrow_135 ?_
        refine z_iload (pc := 137) X.1 hl 4 rfl dX4_borrow_137 ?_
        obtain ⟨g21, h⟩ := z_guard h
        refine z_icmp_ge (pc := 139) (tgt := 145) X.1 dX4_borrow_139 (by decide) ⟨g21.1, g21.2⟩ h (fun c27 h => ?_) (fun c27 h => ?_)
        · refine z_iload (pc := 145) X.1 hl 5 rfl dX4_borrow_145 ?_
          refine z_aload_n (pc := 147) X.1 hl 1 rfl rfl dX4_borrow_147 ?_
          refine z_iload (pc := 148) X.1 hl 8 rfl dX4_borrow_148 ?_
          refine z_iload (pc := 150) X.1 hl 0 rfl dX4_borrow_150 ?_
          refine z_iload (pc := 152) X.1 hl 4 rfl dX4_borrow_152 ?_
          refine z_isub (pc := 154) X.1 dX4_borrow_154 ?_
          refine z_iload_n (pc := 155) X.1 hl 3 rfl rfl dX4_borrow_155 ?_
          obtain ⟨q22, eq22, h⟩ := z_bind h
          refine z_callV7I (pc := 156) (n := 3) (As := [.int (iO x9), .int (iO (w19 - x5)), .int (iO x2)]) (rest := [.int (iO x6)]) X hW hl rfl (C4_throughMore l N x9 (w19 - x5) x2 μ eq22) gX4_borrow_X4_throughMore rfl (by decide +kernel) rfl (by decide) rfl (Nat.le_of_ble_eq_true rfl) dX4_borrow_156 (fun H locs hW => ?_)
          refine z_iadd (pc := 159) X.1 dX4_borrow_159 ?_
          refine z_aload_n (pc := 160) X.1 hl 1 rfl rfl dX4_borrow_160 ?_
          refine z_iload (pc := 161) X.1 hl 8 rfl dX4_borrow_161 ?_
          refine z_iload (pc := 163) X.1 hl 0 rfl dX4_borrow_163 ?_
          refine z_iload_n (pc := 165) X.1 hl 3 rfl rfl dX4_borrow_165 ?_
          obtain ⟨q23, eq23, h⟩ := z_bind h
          refine z_callV7I (pc := 166) (n := 3) (As := [.int (iO x9), .int (iO w19), .int (iO x2)]) (rest := [.int (iO (x6 + q22.1))]) X hW hl rfl (C4_throughMore l N x9 w19 x2 q22.2 eq23) gX4_borrow_X4_throughMore rfl (by decide +kernel) rfl (by decide) rfl (Nat.le_of_ble_eq_true rfl) dX4_borrow_166 (fun H locs hW => ?_)
          refine z_isub (pc := 169) X.1 dX4_borrow_169 ?_
          obtain ⟨w24, ew24, h⟩ := z_bnd h
          refine z_istore (pc := 170) (i := 11) X.1 [(11, .int (iO w24)), (10, .int (iO w19)), (0, .ref (ad 9)), (1, .int (iO x1)), (2, .int (iO x2)), (5, .int (iO x5)), (6, .int (iO x6)), (7, .int (iO x7)), (8, .int (iO x8)), (9, .int (iO x9))] hl ew24 (by decide) rfl dX4_borrow_170 (fun ls hl => ?_)
          refine z_iload (pc := 172) X.1 hl 0 rfl dX4_borrow_172 ?_
          refine z_iload (pc := 174) X.1 hl 8 rfl dX4_borrow_174 ?_
          obtain ⟨g25, h⟩ := z_guard h
          refine z_icmp_le (pc := 176) (tgt := 187) X.1 dX4_borrow_176 (by decide) ⟨g25.1, g25.2⟩ h (fun c26 h => ?_) (fun c26 h => ?_)
          · exact CJ4_borrow_187 X N (L4_borrow_103 N k) ih x1 x2 x5 x6 x7 x8 x9 q23.2 h _ _ ls hW (lv_sub hl [2, 3, 4, 5, 6, 7, 8, 9] rfl)
          · refine z_iload (pc := 179) X.1 hl 0 rfl dX4_borrow_179 ?_
            refine z_istore (pc := 181) (i := 8) X.1 [(8, .int (iO w24)), (11, .int (iO w24)), (10, .int (iO w19)), (0, .ref (ad 9)), (1, .int (iO x1)), (2, .int (iO x2)), (5, .int (iO x5)), (6, .int (iO x6)), (7, .int (iO x7)), (9, .int (iO x9))] hl rfl (by decide) rfl dX4_borrow_181 (fun ls hl => ?_)
            refine z_iload (pc := 183) X.1 hl 9 rfl dX4_borrow_183 ?_
            refine z_istore (pc := 185) (i := 7) X.1 [(7, .int (iO x9)), (8, .int (iO w24)), (11, .int (iO w24)), (10, .int (iO w19)), (0, .ref (ad 9)), (1, .int (iO x1)), (2, .int (iO x2)), (5, .int (iO x5)), (6, .int (iO x6)), (9, .int (iO x9))] hl rfl (by decide) rfl dX4_borrow_185 (fun ls hl => ?_)
            exact CJ4_borrow_187 X N (L4_borrow_103 N k) ih x1 x2 x5 x6 x9 w24 x9 q23.2 h _ _ ls hW (lv_sub hl [4, 5, 6, 7, 8, 0, 1, 9] rfl)
        · refine z_goto (pc := 142) (tgt := 187) X.1 dX4_borrow_142 (by decide) ?_
          exact CJ4_borrow_187 X N (L4_borrow_103 N k) ih x1 x2 x5 x6 x7 x8 x9 μ h _ _ ls hW (lv_sub hl [1, 2, 3, 4, 5, 6, 7, 8] rfl)
end
theorem C4_borrow (l : Launch) {D : va_G} {cy : ClassId × ClassId} {ad : Nat → Nat} (N : Nat) (a0 : Int) (a1 : Int) (μ : mm) {res : (Int × mm)} (h : M4_borrow N a0 a1 μ = some res) : zI l yX4_borrow wsX4_borrow 4 D cy ad [.ref (ad 9), .int (iO a0), .int (iO a1)] μ res.1 res.2 := by
  refine zI.of RX4 rfl (by decide) rfl (Nat.le_of_ble_eq_true rfl) ?_
  intro p e s m args below meth c A X hW ls hl
  have hl : lv_has ls 12 [(0, .ref (ad 9)), (1, .int (iO a0)), (2, .int (iO a1))] := hl
  unfold M4_borrow at h
  refine z_aload_n (pc := 0) X.1 hl 0 rfl rfl dX4_borrow_0 ?_
  refine z_iload_n (pc := 1) X.1 hl 1 rfl rfl dX4_borrow_1 ?_
  obtain ⟨q1, eq1, h⟩ := z_bind h
  refine z_callV7I (pc := 2) (n := 1) (As := [.int (iO a0)]) (rest := []) X hW hl rfl (C4_unknown l N a0 μ eq1) gX4_borrow_X4_unknown rfl (by decide +kernel) rfl (by decide) rfl (Nat.le_of_ble_eq_true rfl) dX4_borrow_2 (fun H locs hW => ?_)
  refine z_iload_n (pc := 5) X.1 hl 2 rfl rfl dX4_borrow_5 ?_
  refine z_iconst (pc := 6) X.1 dX4_borrow_6 ?_
  refine z_bipush (pc := 7) X.1 dX4_borrow_7 (by decide) ?_
  obtain ⟨q2, eq2, h⟩ := z_bind h
  refine z_callSI (pc := 9) (n := 3) (As := [.int (iO a1), .int (iO 1), .int (iO 30)]) (rest := [.int (iO q1)]) X hW hl (C4_outside l N a1 1 30 μ eq2) gX4_borrow_X4_outside rfl (by decide +kernel) rfl (by decide) rfl (Nat.le_of_ble_eq_true rfl) dX4_borrow_9 (fun H locs hW => ?_)
  refine z_iconst (pc := 12) X.1 dX4_borrow_12 ?_
  obtain ⟨q3, eq3, h⟩ := z_bind h
  refine z_callSI (pc := 13) (n := 3) (As := [.int (iO q1), .int (iO q2), .int (iO 0)]) (rest := []) X hW hl (C4_firstOf l N q1 q2 0 μ eq3) gX4_borrow_X4_firstOf rfl (by decide +kernel) rfl (by decide) rfl (Nat.le_of_ble_eq_true rfl) dX4_borrow_13 (fun H locs hW => ?_)
  refine z_istore_n (pc := 16) (i := 3) X.1 [(3, .int (iO q3)), (0, .ref (ad 9)), (1, .int (iO a0)), (2, .int (iO a1))] hl rfl rfl (by decide) rfl dX4_borrow_16 (fun ls hl => ?_)
  refine z_iload_n (pc := 17) X.1 hl 0 rfl rfl dX4_borrow_17 ?_
  obtain ⟨g4, h⟩ := z_guard h
  refine z_if_eq (pc := 18) (tgt := 27) X.1 dX4_borrow_18 (by decide) g4 h (fun c33 h => ?_) (fun c33 h => ?_)
  · refine z_aload_n (pc := 27) X.1 hl 1 rfl rfl dX4_borrow_27 ?_
    refine z_get7 (pc := 28) X.1 hW rfl iX4_borrow_7 0 (by decide) rfl (by decide +kernel) dX4_borrow_28 ?_
    refine z_iload_n (pc := 31) X.1 hl 2 rfl rfl dX4_borrow_31 ?_
    obtain ⟨q5, eq5, h⟩ := z_bind h
    obtain ⟨g6, h⟩ := z_guard h
    refine z_callV3R (pc := 32) (n := 1) (As := [.int (iO a0)]) (rest := []) X hW hl rfl (C1_at l N 10 a0 rfl μ eq5) gX4_borrow_X1_at rfl (by decide +kernel) rfl (by decide) rfl (Nat.le_of_ble_eq_true rfl) dX4_borrow_32 (fun H locs hW => ?_)
    refine z_get5 (pc := 35) X.1 hW g6 iX4_borrow_5 2 (by decide) rfl (by decide +kernel) dX4_borrow_35 ?_
    obtain ⟨w7, ew7, h⟩ := z_bnd h
    refine z_istore (pc := 38) (i := 4) X.1 [(4, .int (iO w7)), (3, .int (iO q3)), (0, .ref (ad 9)), (1, .int (iO a0)), (2, .int (iO a1))] hl ew7 (by decide) rfl dX4_borrow_38 (fun ls hl => ?_)
    refine z_aload_n (pc := 40) X.1 hl 2 rfl rfl dX4_borrow_40 ?_
    refine z_get7 (pc := 41) X.1 hW rfl iX4_borrow_7 0 (by decide) rfl (by decide +kernel) dX4_borrow_41 ?_
    refine z_iload_n (pc := 44) X.1 hl 3 rfl rfl dX4_borrow_44 ?_
    obtain ⟨q8, eq8, h⟩ := z_bind h
    obtain ⟨g9, h⟩ := z_guard h
    refine z_callV3R (pc := 45) (n := 1) (As := [.int (iO a0)]) (rest := []) X hW hl rfl (C1_at l N 10 a0 rfl μ eq8) gX4_borrow_X1_at rfl (by decide +kernel) rfl (by decide) rfl (Nat.le_of_ble_eq_true rfl) dX4_borrow_45 (fun H locs hW => ?_)
    obtain ⟨q10, eq10, h⟩ := z_bind h
    refine z_callV5I (pc := 48) (n := 0) (As := []) (rest := []) X hW hl g9 (C2_lacking l N q8 g9 μ eq10) gX4_borrow_X2_lacking rfl (by decide +kernel) rfl (by decide) rfl (Nat.le_of_ble_eq_true rfl) dX4_borrow_48 (fun H locs hW => ?_)
    refine z_istore (pc := 51) (i := 5) X.1 [(5, .int (iO q10)), (4, .int (iO w7)), (3, .int (iO q3)), (0, .ref (ad 9)), (1, .int (iO a0)), (2, .int (iO a1))] hl rfl (by decide) rfl dX4_borrow_51 (fun ls hl => ?_)
    refine z_iload (pc := 53) X.1 hl 0 rfl dX4_borrow_53 ?_
    obtain ⟨g11, h⟩ := z_guard h
    refine z_if_eq (pc := 55) (tgt := 68) X.1 dX4_borrow_55 (by decide) g11 h (fun c31 h => ?_) (fun c31 h => ?_)
    · refine z_bipush (pc := 68) X.1 dX4_borrow_68 (by decide) ?_
      exact z_iret (pc := 70) X hW (z_p1 h) (z_p2 h) dX4_borrow_70
    · refine z_iload (pc := 58) X.1 hl 1 rfl dX4_borrow_58 ?_
      refine z_iload (pc := 60) X.1 hl 0 rfl dX4_borrow_60 ?_
      refine z_iadd (pc := 62) X.1 dX4_borrow_62 ?_
      refine z_bipush (pc := 63) X.1 dX4_borrow_63 (by decide) ?_
      obtain ⟨g12, h⟩ := z_guard h
      refine z_icmp_le (pc := 65) (tgt := 71) X.1 dX4_borrow_65 (by decide) ⟨g12, (by decide)⟩ h (fun c30 h => ?_) (fun c30 h => ?_)
      · refine z_aload_n (pc := 71) X.1 hl 3 rfl rfl dX4_borrow_71 ?_
        refine z_iload_n (pc := 72) X.1 hl 4 rfl rfl dX4_borrow_72 ?_
        refine z_iload (pc := 73) X.1 hl 1 rfl dX4_borrow_73 ?_
        refine z_iload (pc := 75) X.1 hl 0 rfl dX4_borrow_75 ?_
        refine z_iadd (pc := 77) X.1 dX4_borrow_77 ?_
        refine z_iload_n (pc := 78) X.1 hl 5 rfl rfl dX4_borrow_78 ?_
        obtain ⟨q13, eq13, h⟩ := z_bind h
        refine z_callV7I (pc := 79) (n := 3) (As := [.int (iO a0), .int (iO (w7 + q10)), .int (iO a1)]) (rest := []) X hW hl rfl (C4_throughMore l N a0 (w7 + q10) a1 μ eq13) gX4_borrow_X4_throughMore rfl (by decide +kernel) rfl (by decide) rfl (Nat.le_of_ble_eq_true rfl) dX4_borrow_79 (fun H locs hW => ?_)
        refine z_aload_n (pc := 82) X.1 hl 3 rfl rfl dX4_borrow_82 ?_
        refine z_iload_n (pc := 83) X.1 hl 4 rfl rfl dX4_borrow_83 ?_
        refine z_iload (pc := 84) X.1 hl 1 rfl dX4_borrow_84 ?_
        refine z_iload_n (pc := 86) X.1 hl 5 rfl rfl dX4_borrow_86 ?_
        obtain ⟨q14, eq14, h⟩ := z_bind h
        refine z_callV7I (pc := 87) (n := 3) (As := [.int (iO a0), .int (iO w7), .int (iO a1)]) (rest := [.int (iO q13.1)]) X hW hl rfl (C4_throughMore l N a0 w7 a1 q13.2 eq14) gX4_borrow_X4_throughMore rfl (by decide +kernel) rfl (by decide) rfl (Nat.le_of_ble_eq_true rfl) dX4_borrow_87 (fun H locs hW => ?_)
        refine z_isub (pc := 90) X.1 dX4_borrow_90 ?_
        obtain ⟨w15, ew15, h⟩ := z_bnd h
        refine z_istore (pc := 91) (i := 6) X.1 [(6, .int (iO w15)), (5, .int (iO q10)), (4, .int (iO w7)), (3, .int (iO q3)), (0, .ref (ad 9)), (1, .int (iO a0)), (2, .int (iO a1))] hl ew15 (by decide) rfl dX4_borrow_91 (fun ls hl => ?_)
        refine z_bipush (pc := 93) X.1 dX4_borrow_93 (by decide) ?_
        refine z_istore (pc := 95) (i := 7) X.1 [(7, .int (iO (-9))), (6, .int (iO w15)), (5, .int (iO q10)), (4, .int (iO w7)), (3, .int (iO q3)), (0, .ref (ad 9)), (1, .int (iO a0)), (2, .int (iO a1))] hl rfl (by decide) rfl dX4_borrow_95 (fun ls hl => ?_)
        refine z_iconst (pc := 97) X.1 dX4_borrow_97 ?_
        refine z_istore (pc := 98) (i := 8) X.1 [(8, .int (iO 0)), (7, .int (iO (-9))), (6, .int (iO w15)), (5, .int (iO q10)), (4, .int (iO w7)), (3, .int (iO q3)), (0, .ref (ad 9)), (1, .int (iO a0)), (2, .int (iO a1))] hl rfl (by decide) rfl dX4_borrow_98 (fun ls hl => ?_)
        refine z_iconst (pc := 100) X.1 dX4_borrow_100 ?_
        refine z_istore (pc := 101) (i := 9) X.1 [(9, .int (iO 0)), (8, .int (iO 0)), (7, .int (iO (-9))), (6, .int (iO w15)), (5, .int (iO q10)), (4, .int (iO w7)), (3, .int (iO q3)), (0, .ref (ad 9)), (1, .int (iO a0)), (2, .int (iO a1))] hl rfl (by decide) rfl dX4_borrow_101 (fun ls hl => ?_)
        exact CL4_borrow_103 X N N a0 a1 q10 w15 (-9) 0 0 q14.2 h _ _ ls hW (lv_sub hl [7, 8, 9, 4, 3, 2, 1, 0] rfl)
      · refine z_bipush (pc := 68) X.1 dX4_borrow_68 (by decide) ?_
        exact z_iret (pc := 70) X hW (z_p1 h) (z_p2 h) dX4_borrow_70
  · refine z_aload_n (pc := 21) X.1 hl 1 rfl rfl dX4_borrow_21 ?_
    refine z_iload_n (pc := 22) X.1 hl 0 rfl rfl dX4_borrow_22 ?_
    obtain ⟨q32, eq32, h⟩ := z_bind h
    refine z_callV7I (pc := 23) (n := 1) (As := [.int (iO q3)]) (rest := []) X hW hl rfl (C4_refused l N q3 μ eq32) gX4_borrow_X4_refused rfl (by decide +kernel) rfl (by decide) rfl (Nat.le_of_ble_eq_true rfl) dX4_borrow_23 (fun H locs hW => ?_)
    exact z_iret (pc := 26) X hW (z_p1 h) (z_p2 h) dX4_borrow_26
-- X4_shortMore
theorem iX4_shortMore_5 : ∀ w ∈ wsX20, w ∈ wsX4_shortMore := by decide +kernel
theorem iX4_shortMore_7 : ∀ w ∈ wsX40, w ∈ wsX4_shortMore := by decide +kernel
theorem C4_shortMore (l : Launch) {D : va_G} {cy : ClassId × ClassId} {ad : Nat → Nat} (N : Nat) (a0 : Int) (a1 : Int) (a2 : Int) (μ : mm) {res : (Int × mm)} (h : M4_shortMore N a0 a1 a2 μ = some res) : zI l yX4_shortMore wsX4_shortMore 3 D cy ad [.ref (ad 9), .int (iO a0), .int (iO a1), .int (iO a2)] μ res.1 res.2 := by
  refine zI.of RX4 rfl (by decide) rfl (Nat.le_of_ble_eq_true rfl) ?_
  intro p e s m args below meth c A X hW ls hl
  have hl : lv_has ls 4 [(0, .ref (ad 9)), (1, .int (iO a0)), (2, .int (iO a1)), (3, .int (iO a2))] := hl
  unfold M4_shortMore at h
  refine z_aload_n (pc := 0) X.1 hl 0 rfl rfl dX4_shortMore_0 ?_
  refine z_iload_n (pc := 1) X.1 hl 1 rfl rfl dX4_shortMore_1 ?_
  refine z_iload_n (pc := 2) X.1 hl 2 rfl rfl dX4_shortMore_2 ?_
  refine z_iload_n (pc := 3) X.1 hl 3 rfl rfl dX4_shortMore_3 ?_
  obtain ⟨q1, eq1, h⟩ := z_bind h
  obtain ⟨g2, h⟩ := z_guard h
  refine z_callV7R (pc := 4) (n := 3) (As := [.int (iO a0), .int (iO a1), .int (iO a2)]) (rest := []) X hW hl rfl (C4_thought l N a0 a1 a2 μ eq1) gX4_shortMore_X4_thought rfl (by decide +kernel) rfl (by decide) rfl (Nat.le_of_ble_eq_true rfl) dX4_shortMore_4 (fun H locs hW => ?_)
  refine z_get5 (pc := 7) X.1 hW g2 iX4_shortMore_5 5 (by decide) rfl (by decide +kernel) dX4_shortMore_7 ?_
  refine z_aload_n (pc := 10) X.1 hl 0 rfl rfl dX4_shortMore_10 ?_
  refine z_get7 (pc := 11) X.1 hW rfl iX4_shortMore_7 0 (by decide) rfl (by decide +kernel) dX4_shortMore_11 ?_
  refine z_iload_n (pc := 14) X.1 hl 1 rfl rfl dX4_shortMore_14 ?_
  obtain ⟨q3, eq3, h⟩ := z_bind h
  obtain ⟨g4, h⟩ := z_guard h
  refine z_callV3R (pc := 15) (n := 1) (As := [.int (iO a0)]) (rest := [.int (iO (q1.2 q1.1 5))]) X hW hl rfl (C1_at l N 10 a0 rfl q1.2 eq3) gX4_shortMore_X1_at rfl (by decide +kernel) rfl (by decide) rfl (Nat.le_of_ble_eq_true rfl) dX4_shortMore_15 (fun H locs hW => ?_)
  refine z_get5 (pc := 18) X.1 hW g4 iX4_shortMore_5 5 (by decide) rfl (by decide +kernel) dX4_shortMore_18 ?_
  refine z_isub (pc := 21) X.1 dX4_shortMore_21 ?_
  exact z_iret (pc := 22) X hW (z_p1 h) (z_p2 h) dX4_shortMore_22
-- X4_sweep
theorem iX4_sweep_3 : ∀ w ∈ wsX10, w ∈ wsX4_sweep := by decide +kernel
theorem iX4_sweep_5 : ∀ w ∈ wsX20, w ∈ wsX4_sweep := by decide +kernel
theorem iX4_sweep_7 : ∀ w ∈ wsX40, w ∈ wsX4_sweep := by decide +kernel
section
variable {p : Program} {l : Launch} {e : Env} {s : State} {m : MethodId} {args : Array Value} {below : List Frame} {meth : Method} {c : Code} {D : va_G} {cy : ClassId × ClassId} {ad : Nat → Nat} {A : Nat → Prop} {res : (Int × mm)}
theorem CJ4_sweep_112 (X : zX p s m args meth c cX4_sweep RX4 wsX4_sweep 9 D cy ad (some .int) A) (N : Nat) (rec38 : Int → Int → Int → Int → Int → mm → Option (Int × mm)) (hrec38 : ∀ (x1 : Int) (x2 : Int) (x4 : Int) (x5 : Int) (x6 : Int) (μ : mm), rec38 x1 x2 x4 x5 x6 μ = some res → ∀ (H : Heap) (locs : List Loc) (ls : Array Slot), zW D cy ad A s.heap μ H locs → lv_has ls 9 [(0, .ref (ad 9)), (1, .int (iO x1)), (2, .int (iO x2)), (4, .int (iO x4)), (5, .int (iO x5)), (6, .int (iO x6))] → W p l e (rmD 4) s m args below meth c H locs 0 0 (MQ below (zQi D cy ad A res.1 res.2) args s 0 0 A) (F0 m 38 ls [])) : ∀ (x1 : Int) (x2 : Int) (x4 : Int) (x5 : Int) (x6 : Int) (μ : mm), J4_sweep_112 N rec38 x1 x2 x4 x5 x6 μ = some res → ∀ (H : Heap) (locs : List Loc) (ls : Array Slot), zW D cy ad A s.heap μ H locs → lv_has ls 9 [(0, .ref (ad 9)), (1, .int (iO x1)), (2, .int (iO x2)), (4, .int (iO x4)), (5, .int (iO x5)), (6, .int (iO x6))] → W p l e (rmD 4) s m args below meth c H locs 0 0 (MQ below (zQi D cy ad A res.1 res.2) args s 0 0 A) (F0 m 112 ls []) := by
  intro x1 x2 x4 x5 x6 μ h H locs ls hW hl
  rw [J4_sweep_112] at h
  refine z_iinc (pc := 112) (i := 6) X.1 [(6, .int (iO (x6 + 1))), (0, .ref (ad 9)), (1, .int (iO x1)), (2, .int (iO x2)), (4, .int (iO x4)), (5, .int (iO x5))] hl 5 rfl rfl (by decide) rfl dX4_sweep_112 (fun ls hl => ?_)
  refine z_goto (pc := 115) (tgt := 38) X.1 dX4_sweep_115 (by decide) ?_
  exact hrec38 x1 x2 x4 x5 (x6 + 1) μ h _ _ ls hW (lv_sub hl [1, 2, 3, 4, 5, 0] rfl)
theorem CJ4_sweep_104 (X : zX p s m args meth c cX4_sweep RX4 wsX4_sweep 9 D cy ad (some .int) A) (N : Nat) (rec38 : Int → Int → Int → Int → Int → mm → Option (Int × mm)) (hrec38 : ∀ (x1 : Int) (x2 : Int) (x4 : Int) (x5 : Int) (x6 : Int) (μ : mm), rec38 x1 x2 x4 x5 x6 μ = some res → ∀ (H : Heap) (locs : List Loc) (ls : Array Slot), zW D cy ad A s.heap μ H locs → lv_has ls 9 [(0, .ref (ad 9)), (1, .int (iO x1)), (2, .int (iO x2)), (4, .int (iO x4)), (5, .int (iO x5)), (6, .int (iO x6))] → W p l e (rmD 4) s m args below meth c H locs 0 0 (MQ below (zQi D cy ad A res.1 res.2) args s 0 0 A) (F0 m 38 ls [])) : ∀ (x1 : Int) (x2 : Int) (x6 : Int) (x8 : Int) (μ : mm), J4_sweep_104 N rec38 x1 x2 x6 x8 μ = some res → ∀ (H : Heap) (locs : List Loc) (ls : Array Slot), zW D cy ad A s.heap μ H locs → lv_has ls 9 [(0, .ref (ad 9)), (1, .int (iO x1)), (2, .int (iO x2)), (6, .int (iO x6)), (8, .int (iO x8))] → W p l e (rmD 4) s m args below meth c H locs 0 0 (MQ below (zQi D cy ad A res.1 res.2) args s 0 0 A) (F0 m 104 ls []) := by
  intro x1 x2 x6 x8 μ h H locs ls hW hl
  rw [J4_sweep_104] at h
  refine z_iload (pc := 104) X.1 hl 3 rfl dX4_sweep_104 ?_
  refine z_istore (pc := 106) (i := 4) X.1 [(4, .int (iO x6)), (0, .ref (ad 9)), (1, .int (iO x1)), (2, .int (iO x2)), (6, .int (iO x6)), (8, .int (iO x8))] hl rfl (by decide) rfl dX4_sweep_106 (fun ls hl => ?_)
  refine z_iload (pc := 108) X.1 hl 5 rfl dX4_sweep_108 ?_
  refine z_istore (pc := 110) (i := 5) X.1 [(5, .int (iO x8)), (4, .int (iO x6)), (0, .ref (ad 9)), (1, .int (iO x1)), (2, .int (iO x2)), (6, .int (iO x6)), (8, .int (iO x8))] hl rfl (by decide) rfl dX4_sweep_110 (fun ls hl => ?_)
  exact CJ4_sweep_112 X N rec38 hrec38 x1 x2 x6 x8 x6 μ h _ _ ls hW (lv_sub hl [2, 3, 4, 1, 0, 5] rfl)
theorem CL4_sweep_38 (X : zX p s m args meth c cX4_sweep RX4 wsX4_sweep 9 D cy ad (some .int) A) (N : Nat) : ∀ (k : Nat) (x1 : Int) (x2 : Int) (x4 : Int) (x5 : Int) (x6 : Int) (μ : mm), L4_sweep_38 N k x1 x2 x4 x5 x6 μ = some res → ∀ (H : Heap) (locs : List Loc) (ls : Array Slot), zW D cy ad A s.heap μ H locs → lv_has ls 9 [(0, .ref (ad 9)), (1, .int (iO x1)), (2, .int (iO x2)), (4, .int (iO x4)), (5, .int (iO x5)), (6, .int (iO x6))] → W p l e (rmD 4) s m args below meth c H locs 0 0 (MQ below (zQi D cy ad A res.1 res.2) args s 0 0 A) (F0 m 38 ls []) := by
  intro k
  induction k with
  | zero =>
    intro x1 x2 x4 x5 x6 μ h H locs ls hW hl
    exact absurd h (by rw [L4_sweep_38]; exact fun z => by cases z)
  | succ k ih =>
    intro x1 x2 x4 x5 x6 μ h H locs ls hW hl
    rw [L4_sweep_38] at h
    refine z_iload (pc := 38) X.1 hl 5 rfl dX4_sweep_38 ?_
    refine z_aload_n (pc := 40) X.1 hl 0 rfl rfl dX4_sweep_40 ?_
    refine z_get7 (pc := 41) X.1 hW rfl iX4_sweep_7 0 (by decide) rfl (by decide +kernel) dX4_sweep_41 ?_
    refine z_get3 (pc := 44) X.1 hW rfl iX4_sweep_3 2 (by decide) rfl (by decide +kernel) dX4_sweep_44 ?_
    obtain ⟨g5, h⟩ := z_guard h
    refine z_icmp_ge (pc := 47) (tgt := 118) X.1 dX4_sweep_47 (by decide) ⟨g5.1, g5.2⟩ h (fun c20 h => ?_) (fun c20 h => ?_)
    · refine z_iload_n (pc := 118) X.1 hl 2 rfl rfl dX4_sweep_118 ?_
      obtain ⟨g6, h⟩ := z_guard h
      refine z_if_ne (pc := 119) (tgt := 127) X.1 dX4_sweep_119 (by decide) g6 h (fun c7 h => ?_) (fun c7 h => ?_)
      · refine z_iload (pc := 127) X.1 hl 4 rfl dX4_sweep_127 ?_
        exact z_iret (pc := 129) X hW (z_p1 h) (z_p2 h) dX4_sweep_129
      · refine z_iload (pc := 122) X.1 hl 3 rfl dX4_sweep_122 ?_
        refine z_goto (pc := 124) (tgt := 129) X.1 dX4_sweep_124 (by decide) ?_
        exact z_iret (pc := 129) X hW (z_p1 h) (z_p2 h) dX4_sweep_129
    · refine z_aload_n (pc := 50) X.1 hl 0 rfl rfl dX4_sweep_50 ?_
      refine z_get7 (pc := 51) X.1 hW rfl iX4_sweep_7 0 (by decide) rfl (by decide +kernel) dX4_sweep_51 ?_
      refine z_iload (pc := 54) X.1 hl 5 rfl dX4_sweep_54 ?_
      obtain ⟨q8, eq8, h⟩ := z_bind h
      obtain ⟨g9, h⟩ := z_guard h
      refine z_callV3R (pc := 56) (n := 1) (As := [.int (iO x6)]) (rest := []) X hW hl rfl (C1_at l N 10 x6 rfl μ eq8) gX4_sweep_X1_at rfl (by decide +kernel) rfl (by decide) rfl (Nat.le_of_ble_eq_true rfl) dX4_sweep_56 (fun H locs hW => ?_)
      refine z_get5 (pc := 59) X.1 hW g9 iX4_sweep_5 2 (by decide) rfl (by decide +kernel) dX4_sweep_59 ?_
      obtain ⟨w10, ew10, h⟩ := z_bnd h
      refine z_istore (pc := 62) (i := 7) X.1 [(7, .int (iO w10)), (0, .ref (ad 9)), (1, .int (iO x1)), (2, .int (iO x2)), (4, .int (iO x4)), (5, .int (iO x5)), (6, .int (iO x6))] hl ew10 (by decide) rfl dX4_sweep_62 (fun ls hl => ?_)
      refine z_iload (pc := 64) X.1 hl 0 rfl dX4_sweep_64 ?_
      obtain ⟨g11, h⟩ := z_guard h
      refine z_if_ne (pc := 66) (tgt := 72) X.1 dX4_sweep_66 (by decide) g11 h (fun c19 h => ?_) (fun c19 h => ?_)
      · refine z_aload_n (pc := 72) X.1 hl 1 rfl rfl dX4_sweep_72 ?_
        refine z_iload (pc := 73) X.1 hl 6 rfl dX4_sweep_73 ?_
        refine z_iconst (pc := 75) X.1 dX4_sweep_75 ?_
        refine z_iload_n (pc := 76) X.1 hl 2 rfl rfl dX4_sweep_76 ?_
        obtain ⟨q12, eq12, h⟩ := z_bind h
        refine z_callV7I (pc := 77) (n := 3) (As := [.int (iO x6), .int (iO 0), .int (iO x1)]) (rest := []) X hW hl rfl (C4_shortMore l N x6 0 x1 μ eq12) gX4_sweep_X4_shortMore rfl (by decide +kernel) rfl (by decide) rfl (Nat.le_of_ble_eq_true rfl) dX4_sweep_77 (fun H locs hW => ?_)
        refine z_aload_n (pc := 80) X.1 hl 1 rfl rfl dX4_sweep_80 ?_
        refine z_iload (pc := 81) X.1 hl 6 rfl dX4_sweep_81 ?_
        refine z_iload (pc := 83) X.1 hl 0 rfl dX4_sweep_83 ?_
        refine z_iload_n (pc := 85) X.1 hl 2 rfl rfl dX4_sweep_85 ?_
        obtain ⟨q13, eq13, h⟩ := z_bind h
        refine z_callV7I (pc := 86) (n := 3) (As := [.int (iO x6), .int (iO w10), .int (iO x1)]) (rest := [.int (iO q12.1)]) X hW hl rfl (C4_shortMore l N x6 w10 x1 q12.2 eq13) gX4_sweep_X4_shortMore rfl (by decide +kernel) rfl (by decide) rfl (Nat.le_of_ble_eq_true rfl) dX4_sweep_86 (fun H locs hW => ?_)
        refine z_isub (pc := 89) X.1 dX4_sweep_89 ?_
        obtain ⟨w14, ew14, h⟩ := z_bnd h
        refine z_istore (pc := 90) (i := 8) X.1 [(8, .int (iO w14)), (7, .int (iO w10)), (0, .ref (ad 9)), (1, .int (iO x1)), (2, .int (iO x2)), (4, .int (iO x4)), (5, .int (iO x5)), (6, .int (iO x6))] hl ew14 (by decide) rfl dX4_sweep_90 (fun ls hl => ?_)
        refine z_iload (pc := 92) X.1 hl 5 rfl dX4_sweep_92 ?_
        obtain ⟨g15, h⟩ := z_guard h
        refine z_if_lt (pc := 94) (tgt := 104) X.1 dX4_sweep_94 (by decide) g15 h (fun c18 h => ?_) (fun c18 h => ?_)
        · exact CJ4_sweep_104 X N (L4_sweep_38 N k) ih x1 x2 x6 w14 q13.2 h _ _ ls hW (lv_sub hl [2, 3, 4, 7, 0] rfl)
        · refine z_iload (pc := 97) X.1 hl 0 rfl dX4_sweep_97 ?_
          refine z_iload (pc := 99) X.1 hl 6 rfl dX4_sweep_99 ?_
          obtain ⟨g16, h⟩ := z_guard h
          refine z_icmp_ge (pc := 101) (tgt := 112) X.1 dX4_sweep_101 (by decide) ⟨g16.1, g16.2⟩ h (fun c17 h => ?_) (fun c17 h => ?_)
          · exact CJ4_sweep_112 X N (L4_sweep_38 N k) ih x1 x2 x4 x5 x6 q13.2 h _ _ ls hW (lv_sub hl [2, 3, 4, 5, 6, 7] rfl)
          · exact CJ4_sweep_104 X N (L4_sweep_38 N k) ih x1 x2 x6 w14 q13.2 h _ _ ls hW (lv_sub hl [2, 3, 4, 7, 0] rfl)
      · refine z_goto (pc := 69) (tgt := 112) X.1 dX4_sweep_69 (by decide) ?_
        exact CJ4_sweep_112 X N (L4_sweep_38 N k) ih x1 x2 x4 x5 x6 μ h _ _ ls hW (lv_sub hl [1, 2, 3, 4, 5, 6] rfl)
end
theorem C4_sweep (l : Launch) {D : va_G} {cy : ClassId × ClassId} {ad : Nat → Nat} (N : Nat) (a0 : Int) (a1 : Int) (μ : mm) {res : (Int × mm)} (h : M4_sweep N a0 a1 μ = some res) : zI l yX4_sweep wsX4_sweep 4 D cy ad [.ref (ad 9), .int (iO a0), .int (iO a1)] μ res.1 res.2 := by
  refine zI.of RX4 rfl (by decide) rfl (Nat.le_of_ble_eq_true rfl) ?_
  intro p e s m args below meth c A X hW ls hl
  have hl : lv_has ls 9 [(0, .ref (ad 9)), (1, .int (iO a0)), (2, .int (iO a1))] := hl
  unfold M4_sweep at h
  refine z_iload_n (pc := 0) X.1 hl 1 rfl rfl dX4_sweep_0 ?_
  refine z_iconst (pc := 1) X.1 dX4_sweep_1 ?_
  refine z_bipush (pc := 2) X.1 dX4_sweep_2 (by decide) ?_
  obtain ⟨q1, eq1, h⟩ := z_bind h
  refine z_callSI (pc := 4) (n := 3) (As := [.int (iO a0), .int (iO 1), .int (iO 30)]) (rest := []) X hW hl (C4_outside l N a0 1 30 μ eq1) gX4_sweep_X4_outside rfl (by decide +kernel) rfl (by decide) rfl (Nat.le_of_ble_eq_true rfl) dX4_sweep_4 (fun H locs hW => ?_)
  refine z_iload_n (pc := 7) X.1 hl 2 rfl rfl dX4_sweep_7 ?_
  refine z_iconst (pc := 8) X.1 dX4_sweep_8 ?_
  obtain ⟨q2, eq2, h⟩ := z_bind h
  refine z_callSI (pc := 9) (n := 2) (As := [.int (iO a1), .int (iO 1)]) (rest := [.int (iO q1)]) X hW hl (C4_other l N a1 1 μ eq2) gX4_sweep_X4_other rfl (by decide +kernel) rfl (by decide) rfl (Nat.le_of_ble_eq_true rfl) dX4_sweep_9 (fun H locs hW => ?_)
  refine z_iconst (pc := 12) X.1 dX4_sweep_12 ?_
  obtain ⟨q3, eq3, h⟩ := z_bind h
  refine z_callSI (pc := 13) (n := 3) (As := [.int (iO q1), .int (iO q2), .int (iO 0)]) (rest := []) X hW hl (C4_firstOf l N q1 q2 0 μ eq3) gX4_sweep_X4_firstOf rfl (by decide +kernel) rfl (by decide) rfl (Nat.le_of_ble_eq_true rfl) dX4_sweep_13 (fun H locs hW => ?_)
  refine z_istore_n (pc := 16) (i := 3) X.1 [(3, .int (iO q3)), (0, .ref (ad 9)), (1, .int (iO a0)), (2, .int (iO a1))] hl rfl rfl (by decide) rfl dX4_sweep_16 (fun ls hl => ?_)
  refine z_iload_n (pc := 17) X.1 hl 0 rfl rfl dX4_sweep_17 ?_
  obtain ⟨g4, h⟩ := z_guard h
  refine z_if_eq (pc := 18) (tgt := 27) X.1 dX4_sweep_18 (by decide) g4 h (fun c22 h => ?_) (fun c22 h => ?_)
  · refine z_bipush (pc := 27) X.1 dX4_sweep_27 (by decide) ?_
    refine z_istore (pc := 29) (i := 4) X.1 [(4, .int (iO (-9))), (3, .int (iO q3)), (0, .ref (ad 9)), (1, .int (iO a0)), (2, .int (iO a1))] hl rfl (by decide) rfl dX4_sweep_29 (fun ls hl => ?_)
    refine z_bipush (pc := 31) X.1 dX4_sweep_31 (by decide) ?_
    refine z_istore (pc := 33) (i := 5) X.1 [(5, .int (iO (-9))), (4, .int (iO (-9))), (3, .int (iO q3)), (0, .ref (ad 9)), (1, .int (iO a0)), (2, .int (iO a1))] hl rfl (by decide) rfl dX4_sweep_33 (fun ls hl => ?_)
    refine z_iconst (pc := 35) X.1 dX4_sweep_35 ?_
    refine z_istore (pc := 36) (i := 6) X.1 [(6, .int (iO 0)), (5, .int (iO (-9))), (4, .int (iO (-9))), (3, .int (iO q3)), (0, .ref (ad 9)), (1, .int (iO a0)), (2, .int (iO a1))] hl rfl (by decide) rfl dX4_sweep_36 (fun ls hl => ?_)
    exact CL4_sweep_38 X N N a0 a1 (-9) (-9) 0 μ h _ _ ls hW (lv_sub hl [4, 5, 6, 2, 1, 0] rfl)
  · refine z_aload_n (pc := 21) X.1 hl 1 rfl rfl dX4_sweep_21 ?_
    refine z_iload_n (pc := 22) X.1 hl 0 rfl rfl dX4_sweep_22 ?_
    obtain ⟨q21, eq21, h⟩ := z_bind h
    refine z_callV7I (pc := 23) (n := 1) (As := [.int (iO q3)]) (rest := []) X hW hl rfl (C4_refused l N q3 μ eq21) gX4_sweep_X4_refused rfl (by decide +kernel) rfl (by decide) rfl (Nat.le_of_ble_eq_true rfl) dX4_sweep_23 (fun H locs hW => ?_)
    exact z_iret (pc := 26) X hW (z_p1 h) (z_p2 h) dX4_sweep_26
-- X4_grain
theorem iX4_grain_3 : ∀ w ∈ wsX10, w ∈ wsX4_grain := by decide +kernel
theorem iX4_grain_5 : ∀ w ∈ wsX20, w ∈ wsX4_grain := by decide +kernel
theorem iX4_grain_7 : ∀ w ∈ wsX40, w ∈ wsX4_grain := by decide +kernel
section
variable {p : Program} {l : Launch} {e : Env} {s : State} {m : MethodId} {args : Array Value} {below : List Frame} {meth : Method} {c : Code} {D : va_G} {cy : ClassId × ClassId} {ad : Nat → Nat} {A : Nat → Prop} {res : (Int × mm)}
theorem CJ4_grain_100 (X : zX p s m args meth c cX4_grain RX4 wsX4_grain 8 D cy ad (some .int) A) (N : Nat) (rec27 : Int → Int → Int → Int → mm → Option (Int × mm)) (hrec27 : ∀ (x1 : Int) (x3 : Int) (x4 : Int) (x5 : Int) (μ : mm), rec27 x1 x3 x4 x5 μ = some res → ∀ (H : Heap) (locs : List Loc) (ls : Array Slot), zW D cy ad A s.heap μ H locs → lv_has ls 8 [(0, .ref (ad 9)), (1, .int (iO x1)), (3, .int (iO x3)), (4, .int (iO x4)), (5, .int (iO x5))] → W p l e (rmD 4) s m args below meth c H locs 0 0 (MQ below (zQi D cy ad A res.1 res.2) args s 0 0 A) (F0 m 27 ls [])) : ∀ (x1 : Int) (x3 : Int) (x4 : Int) (x5 : Int) (μ : mm), J4_grain_100 N rec27 x1 x3 x4 x5 μ = some res → ∀ (H : Heap) (locs : List Loc) (ls : Array Slot), zW D cy ad A s.heap μ H locs → lv_has ls 8 [(0, .ref (ad 9)), (1, .int (iO x1)), (3, .int (iO x3)), (4, .int (iO x4)), (5, .int (iO x5))] → W p l e (rmD 4) s m args below meth c H locs 0 0 (MQ below (zQi D cy ad A res.1 res.2) args s 0 0 A) (F0 m 100 ls []) := by
  intro x1 x3 x4 x5 μ h H locs ls hW hl
  rw [J4_grain_100] at h
  refine z_iinc (pc := 100) (i := 5) X.1 [(5, .int (iO (x5 + 1))), (0, .ref (ad 9)), (1, .int (iO x1)), (3, .int (iO x3)), (4, .int (iO x4))] hl 4 rfl rfl (by decide) rfl dX4_grain_100 (fun ls hl => ?_)
  refine z_goto (pc := 103) (tgt := 27) X.1 dX4_grain_103 (by decide) ?_
  exact hrec27 x1 x3 x4 (x5 + 1) μ h _ _ ls hW (lv_sub hl [1, 2, 3, 4, 0] rfl)
theorem CL4_grain_27 (X : zX p s m args meth c cX4_grain RX4 wsX4_grain 8 D cy ad (some .int) A) (N : Nat) : ∀ (k : Nat) (x1 : Int) (x3 : Int) (x4 : Int) (x5 : Int) (μ : mm), L4_grain_27 N k x1 x3 x4 x5 μ = some res → ∀ (H : Heap) (locs : List Loc) (ls : Array Slot), zW D cy ad A s.heap μ H locs → lv_has ls 8 [(0, .ref (ad 9)), (1, .int (iO x1)), (3, .int (iO x3)), (4, .int (iO x4)), (5, .int (iO x5))] → W p l e (rmD 4) s m args below meth c H locs 0 0 (MQ below (zQi D cy ad A res.1 res.2) args s 0 0 A) (F0 m 27 ls []) := by
  intro k
  induction k with
  | zero =>
    intro x1 x3 x4 x5 μ h H locs ls hW hl
    exact absurd h (by rw [L4_grain_27]; exact fun z => by cases z)
  | succ k ih =>
    intro x1 x3 x4 x5 μ h H locs ls hW hl
    rw [L4_grain_27] at h
    refine z_iload (pc := 27) X.1 hl 4 rfl dX4_grain_27 ?_
    refine z_aload_n (pc := 29) X.1 hl 0 rfl rfl dX4_grain_29 ?_
    refine z_get7 (pc := 30) X.1 hW rfl iX4_grain_7 0 (by decide) rfl (by decide +kernel) dX4_grain_30 ?_
    refine z_get3 (pc := 33) X.1 hW rfl iX4_grain_3 2 (by decide) rfl (by decide +kernel) dX4_grain_33 ?_
    obtain ⟨g3, h⟩ := z_guard h
    refine z_icmp_ge (pc := 36) (tgt := 106) X.1 dX4_grain_36 (by decide) ⟨g3.1, g3.2⟩ h (fun c14 h => ?_) (fun c14 h => ?_)
    · refine z_iload_n (pc := 106) X.1 hl 2 rfl rfl dX4_grain_106 ?_
      exact z_iret (pc := 107) X hW (z_p1 h) (z_p2 h) dX4_grain_107
    · refine z_aload_n (pc := 39) X.1 hl 0 rfl rfl dX4_grain_39 ?_
      refine z_get7 (pc := 40) X.1 hW rfl iX4_grain_7 0 (by decide) rfl (by decide +kernel) dX4_grain_40 ?_
      refine z_iload (pc := 43) X.1 hl 4 rfl dX4_grain_43 ?_
      obtain ⟨q4, eq4, h⟩ := z_bind h
      obtain ⟨g5, h⟩ := z_guard h
      refine z_callV3R (pc := 45) (n := 1) (As := [.int (iO x5)]) (rest := []) X hW hl rfl (C1_at l N 10 x5 rfl μ eq4) gX4_grain_X1_at rfl (by decide +kernel) rfl (by decide) rfl (Nat.le_of_ble_eq_true rfl) dX4_grain_45 (fun H locs hW => ?_)
      refine z_get5 (pc := 48) X.1 hW g5 iX4_grain_5 2 (by decide) rfl (by decide +kernel) dX4_grain_48 ?_
      obtain ⟨w6, ew6, h⟩ := z_bnd h
      refine z_istore (pc := 51) (i := 6) X.1 [(6, .int (iO w6)), (0, .ref (ad 9)), (1, .int (iO x1)), (3, .int (iO x3)), (4, .int (iO x4)), (5, .int (iO x5))] hl ew6 (by decide) rfl dX4_grain_51 (fun ls hl => ?_)
      refine z_iload (pc := 53) X.1 hl 0 rfl dX4_grain_53 ?_
      refine z_bipush (pc := 55) X.1 dX4_grain_55 (by decide) ?_
      obtain ⟨g7, h⟩ := z_guard h
      refine z_icmp_lt (pc := 57) (tgt := 63) X.1 dX4_grain_57 (by decide) ⟨g7, (by decide)⟩ h (fun c13 h => ?_) (fun c13 h => ?_)
      · refine z_aload_n (pc := 63) X.1 hl 1 rfl rfl dX4_grain_63 ?_
        refine z_iload (pc := 64) X.1 hl 5 rfl dX4_grain_64 ?_
        refine z_iload (pc := 66) X.1 hl 0 rfl dX4_grain_66 ?_
        refine z_iconst (pc := 68) X.1 dX4_grain_68 ?_
        refine z_iadd (pc := 69) X.1 dX4_grain_69 ?_
        refine z_iload_n (pc := 70) X.1 hl 2 rfl rfl dX4_grain_70 ?_
        obtain ⟨q8, eq8, h⟩ := z_bind h
        refine z_callV7I (pc := 71) (n := 3) (As := [.int (iO x5), .int (iO (w6 + 1)), .int (iO x1)]) (rest := []) X hW hl rfl (C4_throughMore l N x5 (w6 + 1) x1 μ eq8) gX4_grain_X4_throughMore rfl (by decide +kernel) rfl (by decide) rfl (Nat.le_of_ble_eq_true rfl) dX4_grain_71 (fun H locs hW => ?_)
        refine z_aload_n (pc := 74) X.1 hl 1 rfl rfl dX4_grain_74 ?_
        refine z_iload (pc := 75) X.1 hl 5 rfl dX4_grain_75 ?_
        refine z_iload (pc := 77) X.1 hl 0 rfl dX4_grain_77 ?_
        refine z_iload_n (pc := 79) X.1 hl 2 rfl rfl dX4_grain_79 ?_
        obtain ⟨q9, eq9, h⟩ := z_bind h
        refine z_callV7I (pc := 80) (n := 3) (As := [.int (iO x5), .int (iO w6), .int (iO x1)]) (rest := [.int (iO q8.1)]) X hW hl rfl (C4_throughMore l N x5 w6 x1 q8.2 eq9) gX4_grain_X4_throughMore rfl (by decide +kernel) rfl (by decide) rfl (Nat.le_of_ble_eq_true rfl) dX4_grain_80 (fun H locs hW => ?_)
        refine z_isub (pc := 83) X.1 dX4_grain_83 ?_
        obtain ⟨w10, ew10, h⟩ := z_bnd h
        refine z_istore (pc := 84) (i := 7) X.1 [(7, .int (iO w10)), (6, .int (iO w6)), (0, .ref (ad 9)), (1, .int (iO x1)), (3, .int (iO x3)), (4, .int (iO x4)), (5, .int (iO x5))] hl ew10 (by decide) rfl dX4_grain_84 (fun ls hl => ?_)
        refine z_iload (pc := 86) X.1 hl 0 rfl dX4_grain_86 ?_
        refine z_iload (pc := 88) X.1 hl 5 rfl dX4_grain_88 ?_
        obtain ⟨g11, h⟩ := z_guard h
        refine z_icmp_le (pc := 90) (tgt := 100) X.1 dX4_grain_90 (by decide) ⟨g11.1, g11.2⟩ h (fun c12 h => ?_) (fun c12 h => ?_)
        · exact CJ4_grain_100 X N (L4_grain_27 N k) ih x1 x3 x4 x5 q9.2 h _ _ ls hW (lv_sub hl [2, 3, 4, 5, 6] rfl)
        · refine z_iload (pc := 93) X.1 hl 6 rfl dX4_grain_93 ?_
          refine z_istore_n (pc := 95) (i := 3) X.1 [(3, .int (iO x5)), (7, .int (iO w10)), (6, .int (iO w6)), (0, .ref (ad 9)), (1, .int (iO x1)), (4, .int (iO x4)), (5, .int (iO x5))] hl rfl rfl (by decide) rfl dX4_grain_95 (fun ls hl => ?_)
          refine z_iload (pc := 96) X.1 hl 1 rfl dX4_grain_96 ?_
          refine z_istore (pc := 98) (i := 4) X.1 [(4, .int (iO w10)), (3, .int (iO x5)), (7, .int (iO w10)), (6, .int (iO w6)), (0, .ref (ad 9)), (1, .int (iO x1)), (5, .int (iO x5))] hl rfl (by decide) rfl dX4_grain_98 (fun ls hl => ?_)
          exact CJ4_grain_100 X N (L4_grain_27 N k) ih x1 x5 w10 x5 q9.2 h _ _ ls hW (lv_sub hl [4, 5, 1, 0, 6] rfl)
      · refine z_goto (pc := 60) (tgt := 100) X.1 dX4_grain_60 (by decide) ?_
        exact CJ4_grain_100 X N (L4_grain_27 N k) ih x1 x3 x4 x5 μ h _ _ ls hW (lv_sub hl [1, 2, 3, 4, 5] rfl)
end
theorem C4_grain (l : Launch) {D : va_G} {cy : ClassId × ClassId} {ad : Nat → Nat} (N : Nat) (a0 : Int) (μ : mm) {res : (Int × mm)} (h : M4_grain N a0 μ = some res) : zI l yX4_grain wsX4_grain 4 D cy ad [.ref (ad 9), .int (iO a0)] μ res.1 res.2 := by
  refine zI.of RX4 rfl (by decide) rfl (Nat.le_of_ble_eq_true rfl) ?_
  intro p e s m args below meth c A X hW ls hl
  have hl : lv_has ls 8 [(0, .ref (ad 9)), (1, .int (iO a0))] := hl
  unfold M4_grain at h
  refine z_iload_n (pc := 0) X.1 hl 1 rfl rfl dX4_grain_0 ?_
  refine z_iconst (pc := 1) X.1 dX4_grain_1 ?_
  refine z_bipush (pc := 2) X.1 dX4_grain_2 (by decide) ?_
  obtain ⟨q1, eq1, h⟩ := z_bind h
  refine z_callSI (pc := 4) (n := 3) (As := [.int (iO a0), .int (iO 1), .int (iO 30)]) (rest := []) X hW hl (C4_outside l N a0 1 30 μ eq1) gX4_grain_X4_outside rfl (by decide +kernel) rfl (by decide) rfl (Nat.le_of_ble_eq_true rfl) dX4_grain_4 (fun H locs hW => ?_)
  refine z_istore_n (pc := 7) (i := 2) X.1 [(2, .int (iO q1)), (0, .ref (ad 9)), (1, .int (iO a0))] hl rfl rfl (by decide) rfl dX4_grain_7 (fun ls hl => ?_)
  refine z_iload_n (pc := 8) X.1 hl 0 rfl rfl dX4_grain_8 ?_
  obtain ⟨g2, h⟩ := z_guard h
  refine z_if_eq (pc := 9) (tgt := 18) X.1 dX4_grain_9 (by decide) g2 h (fun c16 h => ?_) (fun c16 h => ?_)
  · refine z_bipush (pc := 18) X.1 dX4_grain_18 (by decide) ?_
    refine z_istore_n (pc := 20) (i := 3) X.1 [(3, .int (iO (-9))), (2, .int (iO q1)), (0, .ref (ad 9)), (1, .int (iO a0))] hl rfl rfl (by decide) rfl dX4_grain_20 (fun ls hl => ?_)
    refine z_iconst (pc := 21) X.1 dX4_grain_21 ?_
    refine z_istore (pc := 22) (i := 4) X.1 [(4, .int (iO 0)), (3, .int (iO (-9))), (2, .int (iO q1)), (0, .ref (ad 9)), (1, .int (iO a0))] hl rfl (by decide) rfl dX4_grain_22 (fun ls hl => ?_)
    refine z_iconst (pc := 24) X.1 dX4_grain_24 ?_
    refine z_istore (pc := 25) (i := 5) X.1 [(5, .int (iO 0)), (4, .int (iO 0)), (3, .int (iO (-9))), (2, .int (iO q1)), (0, .ref (ad 9)), (1, .int (iO a0))] hl rfl (by decide) rfl dX4_grain_25 (fun ls hl => ?_)
    exact CL4_grain_27 X N N a0 (-9) 0 0 μ h _ _ ls hW (lv_sub hl [4, 5, 2, 1, 0] rfl)
  · refine z_aload_n (pc := 12) X.1 hl 1 rfl rfl dX4_grain_12 ?_
    refine z_iload_n (pc := 13) X.1 hl 0 rfl rfl dX4_grain_13 ?_
    obtain ⟨q15, eq15, h⟩ := z_bind h
    refine z_callV7I (pc := 14) (n := 1) (As := [.int (iO q1)]) (rest := []) X hW hl rfl (C4_refused l N q1 μ eq15) gX4_grain_X4_refused rfl (by decide +kernel) rfl (by decide) rfl (Nat.le_of_ble_eq_true rfl) dX4_grain_14 (fun H locs hW => ?_)
    exact z_iret (pc := 17) X hW (z_p1 h) (z_p2 h) dX4_grain_17
-- X4_shares
theorem iX4_shares_3 : ∀ w ∈ wsX10, w ∈ wsX4_shares := by decide +kernel
theorem iX4_shares_7 : ∀ w ∈ wsX40, w ∈ wsX4_shares := by decide +kernel
theorem C4_shares (l : Launch) {D : va_G} {cy : ClassId × ClassId} {ad : Nat → Nat} (N : Nat) (a0 : Int) (μ : mm) {res : (Int × mm)} (h : M4_shares N a0 μ = some res) : zI l yX4_shares wsX4_shares 1 D cy ad [.ref (ad 9), .int (iO a0)] μ res.1 res.2 := by
  refine zI.of RX4 rfl (by decide) rfl (Nat.le_of_ble_eq_true rfl) ?_
  intro p e s m args below meth c A X hW ls hl
  have hl : lv_has ls 3 [(0, .ref (ad 9)), (1, .int (iO a0))] := hl
  unfold M4_shares at h
  refine z_iload_n (pc := 0) X.1 hl 1 rfl rfl dX4_shares_0 ?_
  refine z_iconst (pc := 1) X.1 dX4_shares_1 ?_
  obtain ⟨q1, eq1, h⟩ := z_bind h
  refine z_callSI (pc := 2) (n := 2) (As := [.int (iO a0), .int (iO 1)]) (rest := []) X hW hl (C4_other l N a0 1 μ eq1) gX4_shares_X4_other rfl (by decide +kernel) rfl (by decide) rfl (Nat.le_of_ble_eq_true rfl) dX4_shares_2 (fun H locs hW => ?_)
  refine z_istore_n (pc := 5) (i := 2) X.1 [(2, .int (iO q1)), (0, .ref (ad 9)), (1, .int (iO a0))] hl rfl rfl (by decide) rfl dX4_shares_5 (fun ls hl => ?_)
  refine z_iload_n (pc := 6) X.1 hl 0 rfl rfl dX4_shares_6 ?_
  obtain ⟨g2, h⟩ := z_guard h
  refine z_if_eq (pc := 7) (tgt := 16) X.1 dX4_shares_7 (by decide) g2 h (fun c12 h => ?_) (fun c12 h => ?_)
  · refine z_aload_n (pc := 16) X.1 hl 1 rfl rfl dX4_shares_16 ?_
    refine z_get7 (pc := 17) X.1 hW rfl iX4_shares_7 0 (by decide) rfl (by decide +kernel) dX4_shares_17 ?_
    refine z_get3 (pc := 20) X.1 hW rfl iX4_shares_3 2 (by decide) rfl (by decide +kernel) dX4_shares_20 ?_
    refine z_iconst (pc := 23) X.1 dX4_shares_23 ?_
    obtain ⟨g3, h⟩ := z_guard h
    refine z_icmp_ge (pc := 24) (tgt := 43) X.1 dX4_shares_24 (by decide) ⟨g3, (by decide)⟩ h (fun c10 h => ?_) (fun c10 h => ?_)
    · refine z_iload_n (pc := 43) X.1 hl 2 rfl rfl dX4_shares_43 ?_
      obtain ⟨g4, h⟩ := z_guard h
      refine z_if_ne (pc := 44) (tgt := 65) X.1 dX4_shares_44 (by decide) g4 h (fun c7 h => ?_) (fun c7 h => ?_)
      · refine z_aload_n (pc := 65) X.1 hl 1 rfl rfl dX4_shares_65 ?_
        refine z_get7 (pc := 66) X.1 hW rfl iX4_shares_7 0 (by decide) rfl (by decide +kernel) dX4_shares_66 ?_
        refine z_get3 (pc := 69) X.1 hW rfl iX4_shares_3 3 (by decide) rfl (by decide +kernel) dX4_shares_69 ?_
        refine z_aload_n (pc := 72) X.1 hl 1 rfl rfl dX4_shares_72 ?_
        refine z_get7 (pc := 73) X.1 hW rfl iX4_shares_7 0 (by decide) rfl (by decide +kernel) dX4_shares_73 ?_
        refine z_get3 (pc := 76) X.1 hW rfl iX4_shares_3 2 (by decide) rfl (by decide +kernel) dX4_shares_76 ?_
        obtain ⟨g5, h⟩ := z_guard h
        refine z_irem (pc := 79) X.1 dX4_shares_79 ⟨g5.1, g5.2.1, g5.2.2.1, g5.2.2.2⟩ ?_
        exact z_iret (pc := 80) X hW (z_p1 h) (z_p2 h) dX4_shares_80
      · refine z_aload_n (pc := 47) X.1 hl 1 rfl rfl dX4_shares_47 ?_
        refine z_get7 (pc := 48) X.1 hW rfl iX4_shares_7 0 (by decide) rfl (by decide +kernel) dX4_shares_48 ?_
        refine z_get3 (pc := 51) X.1 hW rfl iX4_shares_3 3 (by decide) rfl (by decide +kernel) dX4_shares_51 ?_
        refine z_aload_n (pc := 54) X.1 hl 1 rfl rfl dX4_shares_54 ?_
        refine z_get7 (pc := 55) X.1 hW rfl iX4_shares_7 0 (by decide) rfl (by decide +kernel) dX4_shares_55 ?_
        refine z_get3 (pc := 58) X.1 hW rfl iX4_shares_3 2 (by decide) rfl (by decide +kernel) dX4_shares_58 ?_
        obtain ⟨g6, h⟩ := z_guard h
        refine z_idiv (pc := 61) X.1 dX4_shares_61 ⟨g6.1, g6.2.1, g6.2.2.1, g6.2.2.2⟩ ?_
        refine z_goto (pc := 62) (tgt := 80) X.1 dX4_shares_62 (by decide) ?_
        exact z_iret (pc := 80) X hW (z_p1 h) (z_p2 h) dX4_shares_80
    · refine z_iload_n (pc := 27) X.1 hl 2 rfl rfl dX4_shares_27 ?_
      obtain ⟨g8, h⟩ := z_guard h
      refine z_if_ne (pc := 28) (tgt := 35) X.1 dX4_shares_28 (by decide) g8 h (fun c9 h => ?_) (fun c9 h => ?_)
      · refine z_aload_n (pc := 35) X.1 hl 1 rfl rfl dX4_shares_35 ?_
        refine z_get7 (pc := 36) X.1 hW rfl iX4_shares_7 0 (by decide) rfl (by decide +kernel) dX4_shares_36 ?_
        refine z_get3 (pc := 39) X.1 hW rfl iX4_shares_3 3 (by decide) rfl (by decide +kernel) dX4_shares_39 ?_
        exact z_iret (pc := 42) X hW (z_p1 h) (z_p2 h) dX4_shares_42
      · refine z_iconst (pc := 31) X.1 dX4_shares_31 ?_
        refine z_goto (pc := 32) (tgt := 42) X.1 dX4_shares_32 (by decide) ?_
        exact z_iret (pc := 42) X hW (z_p1 h) (z_p2 h) dX4_shares_42
  · refine z_aload_n (pc := 10) X.1 hl 1 rfl rfl dX4_shares_10 ?_
    refine z_iload_n (pc := 11) X.1 hl 0 rfl rfl dX4_shares_11 ?_
    obtain ⟨q11, eq11, h⟩ := z_bind h
    refine z_callV7I (pc := 12) (n := 1) (As := [.int (iO q1)]) (rest := []) X hW hl rfl (C4_refused l N q1 μ eq11) gX4_shares_X4_refused rfl (by decide +kernel) rfl (by decide) rfl (Nat.le_of_ble_eq_true rfl) dX4_shares_12 (fun H locs hW => ?_)
    exact z_iret (pc := 15) X hW (z_p1 h) (z_p2 h) dX4_shares_15
-- X4_richest
theorem iX4_richest_3 : ∀ w ∈ wsX10, w ∈ wsX4_richest := by decide +kernel
theorem iX4_richest_5 : ∀ w ∈ wsX20, w ∈ wsX4_richest := by decide +kernel
theorem iX4_richest_7 : ∀ w ∈ wsX40, w ∈ wsX4_richest := by decide +kernel
section
variable {p : Program} {l : Launch} {e : Env} {s : State} {m : MethodId} {args : Array Value} {below : List Frame} {meth : Method} {c : Code} {D : va_G} {cy : ClassId × ClassId} {ad : Nat → Nat} {A : Nat → Prop} {res : Int} {μ0 : mm}
theorem CJ4_richest_43 (X : zX p s m args meth c cX4_richest RX4 wsX4_richest 5 D cy ad (some .int) A) (N : Nat) (rec8 : Int → Int → Int → mm → Option Int) (hrec8 : ∀ (x1 : Int) (x2 : Int) (x3 : Int) (μ : mm) (_ : μ = μ0), rec8 x1 x2 x3 μ = some res → ∀ (H : Heap) (locs : List Loc) (ls : Array Slot), zW D cy ad A s.heap μ H locs → lv_has ls 5 [(0, .ref (ad 9)), (1, .int (iO x1)), (2, .int (iO x2)), (3, .int (iO x3))] → W p l e (rmD 1) s m args below meth c H locs 0 0 (MQ below (zQi D cy ad A res μ0) args s 0 0 A) (F0 m 8 ls [])) : ∀ (x1 : Int) (x2 : Int) (x3 : Int) (μ : mm) (_ : μ = μ0), J4_richest_43 N rec8 x1 x2 x3 μ = some res → ∀ (H : Heap) (locs : List Loc) (ls : Array Slot), zW D cy ad A s.heap μ H locs → lv_has ls 5 [(0, .ref (ad 9)), (1, .int (iO x1)), (2, .int (iO x2)), (3, .int (iO x3))] → W p l e (rmD 1) s m args below meth c H locs 0 0 (MQ below (zQi D cy ad A res μ0) args s 0 0 A) (F0 m 43 ls []) := by
  intro x1 x2 x3 μ em h H locs ls hW hl
  rw [J4_richest_43] at h
  refine z_iinc (pc := 43) (i := 3) X.1 [(3, .int (iO (x3 + 1))), (0, .ref (ad 9)), (1, .int (iO x1)), (2, .int (iO x2))] hl 3 rfl rfl (by decide) rfl dX4_richest_43 (fun ls hl => ?_)
  refine z_goto (pc := 46) (tgt := 8) X.1 dX4_richest_46 (by decide) ?_
  exact hrec8 x1 x2 (x3 + 1) μ em h _ _ ls hW (lv_sub hl [1, 2, 3, 0] rfl)
theorem CL4_richest_8 (X : zX p s m args meth c cX4_richest RX4 wsX4_richest 5 D cy ad (some .int) A) (N : Nat) : ∀ (k : Nat) (x1 : Int) (x2 : Int) (x3 : Int) (μ : mm) (_ : μ = μ0), L4_richest_8 N k x1 x2 x3 μ = some res → ∀ (H : Heap) (locs : List Loc) (ls : Array Slot), zW D cy ad A s.heap μ H locs → lv_has ls 5 [(0, .ref (ad 9)), (1, .int (iO x1)), (2, .int (iO x2)), (3, .int (iO x3))] → W p l e (rmD 1) s m args below meth c H locs 0 0 (MQ below (zQi D cy ad A res μ0) args s 0 0 A) (F0 m 8 ls []) := by
  intro k
  induction k with
  | zero =>
    intro x1 x2 x3 μ em h H locs ls hW hl
    exact absurd h (by rw [L4_richest_8]; exact fun z => by cases z)
  | succ k ih =>
    intro x1 x2 x3 μ em h H locs ls hW hl
    rw [L4_richest_8] at h
    refine z_iload_n (pc := 8) X.1 hl 3 rfl rfl dX4_richest_8 ?_
    refine z_aload_n (pc := 9) X.1 hl 0 rfl rfl dX4_richest_9 ?_
    refine z_get7 (pc := 10) X.1 hW rfl iX4_richest_7 0 (by decide) rfl (by decide +kernel) dX4_richest_10 ?_
    refine z_get3 (pc := 13) X.1 hW rfl iX4_richest_3 2 (by decide) rfl (by decide +kernel) dX4_richest_13 ?_
    obtain ⟨g1, h⟩ := z_guard h
    refine z_icmp_ge (pc := 16) (tgt := 49) X.1 dX4_richest_16 (by decide) ⟨g1.1, g1.2⟩ h (fun c7 h => ?_) (fun c7 h => ?_)
    · refine z_iload_n (pc := 49) X.1 hl 1 rfl rfl dX4_richest_49 ?_
      exact z_iret (pc := 50) X hW (Option.some.inj h) em dX4_richest_50
    · refine z_aload_n (pc := 19) X.1 hl 0 rfl rfl dX4_richest_19 ?_
      refine z_get7 (pc := 20) X.1 hW rfl iX4_richest_7 0 (by decide) rfl (by decide +kernel) dX4_richest_20 ?_
      refine z_iload_n (pc := 23) X.1 hl 3 rfl rfl dX4_richest_23 ?_
      obtain ⟨q2, eq2, h⟩ := z_bind h
      obtain ⟨g3, h⟩ := z_guard h
      refine z_callV3R (pc := 24) (n := 1) (As := [.int (iO x3)]) (rest := []) X hW hl rfl (C1_at l N 10 x3 rfl μ eq2) gX4_richest_X1_at rfl (by decide +kernel) rfl (by decide) rfl (Nat.le_of_ble_eq_true rfl) dX4_richest_24 (fun H locs hW => ?_)
      refine z_get5 (pc := 27) X.1 hW g3 iX4_richest_5 2 (by decide) rfl (by decide +kernel) dX4_richest_27 ?_
      obtain ⟨w4, ew4, h⟩ := z_bnd h
      refine z_istore (pc := 30) (i := 4) X.1 [(4, .int (iO w4)), (0, .ref (ad 9)), (1, .int (iO x1)), (2, .int (iO x2)), (3, .int (iO x3))] hl ew4 (by decide) rfl dX4_richest_30 (fun ls hl => ?_)
      refine z_iload (pc := 32) X.1 hl 0 rfl dX4_richest_32 ?_
      refine z_iload_n (pc := 34) X.1 hl 3 rfl rfl dX4_richest_34 ?_
      obtain ⟨g5, h⟩ := z_guard h
      refine z_icmp_le (pc := 35) (tgt := 43) X.1 dX4_richest_35 (by decide) ⟨g5.1, g5.2⟩ h (fun c6 h => ?_) (fun c6 h => ?_)
      · exact CJ4_richest_43 X N (L4_richest_8 N k) ih x1 x2 x3 μ em h _ _ ls hW (lv_sub hl [1, 2, 3, 4] rfl)
      · refine z_iload_n (pc := 38) X.1 hl 4 rfl rfl dX4_richest_38 ?_
        refine z_istore_n (pc := 39) (i := 1) X.1 [(1, .int (iO x3)), (4, .int (iO w4)), (0, .ref (ad 9)), (2, .int (iO x2)), (3, .int (iO x3))] hl rfl rfl (by decide) rfl dX4_richest_39 (fun ls hl => ?_)
        refine z_iload (pc := 40) X.1 hl 1 rfl dX4_richest_40 ?_
        refine z_istore_n (pc := 42) (i := 2) X.1 [(2, .int (iO w4)), (1, .int (iO x3)), (4, .int (iO w4)), (0, .ref (ad 9)), (3, .int (iO x3))] hl rfl rfl (by decide) rfl dX4_richest_42 (fun ls hl => ?_)
        exact CJ4_richest_43 X N (L4_richest_8 N k) ih x3 w4 x3 μ em h _ _ ls hW (lv_sub hl [3, 1, 0, 4] rfl)
end
theorem C4_richest (l : Launch) {D : va_G} {cy : ClassId × ClassId} {ad : Nat → Nat} (N : Nat)  (μ0 : mm) {res : Int} (h : M4_richest N μ0 = some res) : zI l yX4_richest wsX4_richest 1 D cy ad [.ref (ad 9)] μ0 res μ0 := by
  refine zI.of RX4 rfl (by decide) rfl (Nat.le_of_ble_eq_true rfl) ?_
  intro p e s m args below meth c A X hW ls hl
  have hl : lv_has ls 5 [(0, .ref (ad 9))] := hl
  unfold M4_richest at h
  refine z_bipush (pc := 0) X.1 dX4_richest_0 (by decide) ?_
  refine z_istore_n (pc := 2) (i := 1) X.1 [(1, .int (iO (-9))), (0, .ref (ad 9))] hl rfl rfl (by decide) rfl dX4_richest_2 (fun ls hl => ?_)
  refine z_bipush (pc := 3) X.1 dX4_richest_3 (by decide) ?_
  refine z_istore_n (pc := 5) (i := 2) X.1 [(2, .int (iO (-9))), (1, .int (iO (-9))), (0, .ref (ad 9))] hl rfl rfl (by decide) rfl dX4_richest_5 (fun ls hl => ?_)
  refine z_iconst (pc := 6) X.1 dX4_richest_6 ?_
  refine z_istore_n (pc := 7) (i := 3) X.1 [(3, .int (iO 0)), (2, .int (iO (-9))), (1, .int (iO (-9))), (0, .ref (ad 9))] hl rfl rfl (by decide) rfl dX4_richest_7 (fun ls hl => ?_)
  exact CL4_richest_8 X N N (-9) (-9) 0 μ0 rfl h _ _ ls hW (lv_sub hl [3, 2, 1, 0] rfl)
-- X4_trusted
theorem iX4_trusted_5 : ∀ w ∈ wsX20, w ∈ wsX4_trusted := by decide +kernel
theorem iX4_trusted_7 : ∀ w ∈ wsX40, w ∈ wsX4_trusted := by decide +kernel
theorem C4_trusted (l : Launch) {D : va_G} {cy : ClassId × ClassId} {ad : Nat → Nat} (N : Nat) (a0 : Int) (μ : mm) {res : (Int × mm)} (h : M4_trusted N a0 μ = some res) : zI l yX4_trusted wsX4_trusted 2 D cy ad [.ref (ad 9), .int (iO a0)] μ res.1 res.2 := by
  refine zI.of RX4 rfl (by decide) rfl (Nat.le_of_ble_eq_true rfl) ?_
  intro p e s m args below meth c A X hW ls hl
  have hl : lv_has ls 4 [(0, .ref (ad 9)), (1, .int (iO a0))] := hl
  unfold M4_trusted at h
  refine z_aload_n (pc := 0) X.1 hl 0 rfl rfl dX4_trusted_0 ?_
  refine z_iload_n (pc := 1) X.1 hl 1 rfl rfl dX4_trusted_1 ?_
  obtain ⟨q1, eq1, h⟩ := z_bind h
  refine z_callV7I (pc := 2) (n := 1) (As := [.int (iO a0)]) (rest := []) X hW hl rfl (C4_unknown l N a0 μ eq1) gX4_trusted_X4_unknown rfl (by decide +kernel) rfl (by decide) rfl (Nat.le_of_ble_eq_true rfl) dX4_trusted_2 (fun H locs hW => ?_)
  refine z_istore_n (pc := 5) (i := 2) X.1 [(2, .int (iO q1)), (0, .ref (ad 9)), (1, .int (iO a0))] hl rfl rfl (by decide) rfl dX4_trusted_5 (fun ls hl => ?_)
  refine z_iload_n (pc := 6) X.1 hl 0 rfl rfl dX4_trusted_6 ?_
  obtain ⟨g2, h⟩ := z_guard h
  refine z_if_eq (pc := 7) (tgt := 19) X.1 dX4_trusted_7 (by decide) g2 h (fun c6 h => ?_) (fun c6 h => ?_)
  · refine z_aload_n (pc := 19) X.1 hl 1 rfl rfl dX4_trusted_19 ?_
    refine z_get7 (pc := 20) X.1 hW rfl iX4_trusted_7 0 (by decide) rfl (by decide +kernel) dX4_trusted_20 ?_
    refine z_iload_n (pc := 23) X.1 hl 2 rfl rfl dX4_trusted_23 ?_
    obtain ⟨q3, eq3, h⟩ := z_bind h
    obtain ⟨g4, h⟩ := z_guard h
    refine z_callV3R (pc := 24) (n := 1) (As := [.int (iO a0)]) (rest := []) X hW hl rfl (C1_at l N 10 a0 rfl μ eq3) gX4_trusted_X1_at rfl (by decide +kernel) rfl (by decide) rfl (Nat.le_of_ble_eq_true rfl) dX4_trusted_24 (fun H locs hW => ?_)
    refine z_astore_n (pc := 27) (i := 3) X.1 [(3, .ref (ad q3)), (2, .int (iO q1)), (0, .ref (ad 9)), (1, .int (iO a0))] hl rfl rfl (by decide) rfl dX4_trusted_27 (fun ls hl => ?_)
    refine z_aload_n (pc := 28) X.1 hl 0 rfl rfl dX4_trusted_28 ?_
    refine z_get5 (pc := 29) X.1 hW g4 iX4_trusted_5 4 (by decide) rfl (by decide +kernel) dX4_trusted_29 ?_
    refine z_aload_n (pc := 32) X.1 hl 0 rfl rfl dX4_trusted_32 ?_
    refine z_get5 (pc := 33) X.1 hW g4 iX4_trusted_5 5 (by decide) rfl (by decide +kernel) dX4_trusted_33 ?_
    refine z_isub (pc := 36) X.1 dX4_trusted_36 ?_
    exact z_iret (pc := 37) X hW (z_p1 h) (z_p2 h) dX4_trusted_37
  · refine z_ldc (pc := 10) (n := 1000000000) X.1 (by decide +kernel) dX4_trusted_10 ?_
    refine z_aload_n (pc := 12) X.1 hl 1 rfl rfl dX4_trusted_12 ?_
    refine z_iload_n (pc := 13) X.1 hl 0 rfl rfl dX4_trusted_13 ?_
    obtain ⟨q5, eq5, h⟩ := z_bind h
    refine z_callV7I (pc := 14) (n := 1) (As := [.int (iO q1)]) (rest := [.int (iO 1000000000)]) X hW hl rfl (C4_refused l N q1 μ eq5) gX4_trusted_X4_refused rfl (by decide +kernel) rfl (by decide) rfl (Nat.le_of_ble_eq_true rfl) dX4_trusted_14 (fun H locs hW => ?_)
    refine z_isub (pc := 17) X.1 dX4_trusted_17 ?_
    exact z_iret (pc := 18) X hW (z_p1 h) (z_p2 h) dX4_trusted_18
-- X4_worth
theorem iX4_worth_7 : ∀ w ∈ wsX40, w ∈ wsX4_worth := by decide +kernel
theorem C4_worth (l : Launch) {D : va_G} {cy : ClassId × ClassId} {ad : Nat → Nat} (N : Nat)  (μ0 : mm) {res : Int} (h : M4_worth N μ0 = some res) : zI l yX4_worth wsX4_worth 2 D cy ad [.ref (ad 9)] μ0 res μ0 := by
  refine zI.of RX4 rfl (by decide) rfl (Nat.le_of_ble_eq_true rfl) ?_
  intro p e s m args below meth c A X hW ls hl
  have hl : lv_has ls 1 [(0, .ref (ad 9))] := hl
  unfold M4_worth at h
  refine z_aload_n (pc := 0) X.1 hl 0 rfl rfl dX4_worth_0 ?_
  refine z_get7 (pc := 1) X.1 hW rfl iX4_worth_7 0 (by decide) rfl (by decide +kernel) dX4_worth_1 ?_
  obtain ⟨q1, eq1, h⟩ := z_bind h
  refine z_callV3I (pc := 4) (n := 0) (As := []) (rest := []) X hW hl rfl (C1_allThrough l N 10 rfl μ0 eq1) gX4_worth_X1_allThrough rfl (by decide +kernel) rfl (by decide) rfl (Nat.le_of_ble_eq_true rfl) dX4_worth_4 (fun H locs hW => ?_)
  refine z_aload_n (pc := 7) X.1 hl 0 rfl rfl dX4_worth_7 ?_
  refine z_get7 (pc := 8) X.1 hW rfl iX4_worth_7 0 (by decide) rfl (by decide +kernel) dX4_worth_8 ?_
  obtain ⟨q2, eq2, h⟩ := z_bind h
  refine z_callV3I (pc := 11) (n := 0) (As := []) (rest := [.int (iO q1)]) X hW hl rfl (C1_allShort l N 10 rfl μ0 eq2) gX4_worth_X1_allShort rfl (by decide +kernel) rfl (by decide) rfl (Nat.le_of_ble_eq_true rfl) dX4_worth_11 (fun H locs hW => ?_)
  refine z_isub (pc := 14) X.1 dX4_worth_14 ?_
  exact z_iret (pc := 15) X hW (Option.some.inj h) rfl dX4_worth_15
-- X4_wants
theorem iX4_wants_7 : ∀ w ∈ wsX40, w ∈ wsX4_wants := by decide +kernel
section
variable {p : Program} {l : Launch} {e : Env} {s : State} {m : MethodId} {args : Array Value} {below : List Frame} {meth : Method} {c : Code} {D : va_G} {cy : ClassId × ClassId} {ad : Nat → Nat} {A : Nat → Prop} {res : Int} {μ0 : mm}
theorem CJ4_wants_29 (X : zX p s m args meth c cX4_wants RX4 wsX4_wants 6 D cy ad (some .int) A) (N : Nat) : ∀ (x1 : Int) (x4 : Int) (y0 : Int) (μ : mm) (_ : μ = μ0), J4_wants_29 N x1 x4 y0 μ = some res → ∀ (H : Heap) (locs : List Loc) (ls : Array Slot), zW D cy ad A s.heap μ H locs → lv_has ls 6 [(0, .ref (ad 9)), (1, .int (iO x1)), (4, .int (iO x4))] → W p l e (rmD 3) s m args below meth c H locs 0 0 (MQ below (zQi D cy ad A res μ0) args s 0 0 A) (F0 m 29 ls [.int (iO y0)]) := by
  intro x1 x4 y0 μ em h H locs ls hW hl
  rw [J4_wants_29] at h
  refine z_istore (pc := 29) (i := 5) X.1 [(5, .int (iO y0)), (0, .ref (ad 9)), (1, .int (iO x1)), (4, .int (iO x4))] hl rfl (by decide) rfl dX4_wants_29 (fun ls hl => ?_)
  refine z_aload_n (pc := 31) X.1 hl 1 rfl rfl dX4_wants_31 ?_
  refine z_iload_n (pc := 32) X.1 hl 2 rfl rfl dX4_wants_32 ?_
  refine z_iload (pc := 33) X.1 hl 0 rfl dX4_wants_33 ?_
  obtain ⟨q5, eq5, h⟩ := z_bind h
  refine z_callV7I (pc := 35) (n := 2) (As := [.int (iO x1), .int (iO y0)]) (rest := []) X hW hl rfl (C4_weighed l N x1 y0 μ eq5) gX4_wants_X4_weighed rfl (by decide +kernel) rfl (by decide) rfl (Nat.le_of_ble_eq_true rfl) dX4_wants_35 (fun H locs hW => ?_)
  refine z_iload (pc := 38) X.1 hl 0 rfl dX4_wants_38 ?_
  obtain ⟨g6, h⟩ := z_guard h
  refine z_if_eq (pc := 40) (tgt := 51) X.1 dX4_wants_40 (by decide) g6 h (fun c8 h => ?_) (fun c8 h => ?_)
  · refine z_iconst (pc := 51) X.1 dX4_wants_51 ?_
    refine z_isub (pc := 52) X.1 dX4_wants_52 ?_
    exact z_iret (pc := 53) X hW (Option.some.inj h) em dX4_wants_53
  · refine z_iload (pc := 43) X.1 hl 3 rfl dX4_wants_43 ?_
    refine z_bipush (pc := 45) X.1 dX4_wants_45 (by decide) ?_
    obtain ⟨g7, h⟩ := z_guard h
    refine z_idiv (pc := 47) X.1 dX4_wants_47 ⟨g7.1, (by decide), g7.2, (by decide)⟩ ?_
    refine z_goto (pc := 48) (tgt := 52) X.1 dX4_wants_48 (by decide) ?_
    refine z_isub (pc := 52) X.1 dX4_wants_52 ?_
    exact z_iret (pc := 53) X hW (Option.some.inj h) em dX4_wants_53
theorem CJ4_wants_28 (X : zX p s m args meth c cX4_wants RX4 wsX4_wants 6 D cy ad (some .int) A) (N : Nat) : ∀ (x1 : Int) (x4 : Int) (μ : mm) (_ : μ = μ0), J4_wants_28 N x1 x4 μ = some res → ∀ (H : Heap) (locs : List Loc) (ls : Array Slot), zW D cy ad A s.heap μ H locs → lv_has ls 6 [(0, .ref (ad 9)), (1, .int (iO x1)), (4, .int (iO x4))] → W p l e (rmD 3) s m args below meth c H locs 0 0 (MQ below (zQi D cy ad A res μ0) args s 0 0 A) (F0 m 28 ls []) := by
  intro x1 x4 μ em h H locs ls hW hl
  rw [J4_wants_28] at h
  refine z_iconst (pc := 28) X.1 dX4_wants_28 ?_
  exact CJ4_wants_29 X N x1 x4 0 μ em h _ _ ls hW (lv_sub hl [0, 1, 2] rfl)
end
theorem C4_wants (l : Launch) {D : va_G} {cy : ClassId × ClassId} {ad : Nat → Nat} (N : Nat) (a0 : Int) (a1 : Int) (a2 : Int) (μ0 : mm) {res : Int} (h : M4_wants N a0 a1 a2 μ0 = some res) : zI l yX4_wants wsX4_wants 3 D cy ad [.ref (ad 9), .int (iO a0), .int (iO a1), .int (iO a2)] μ0 res μ0 := by
  refine zI.of RX4 rfl (by decide) rfl (Nat.le_of_ble_eq_true rfl) ?_
  intro p e s m args below meth c A X hW ls hl
  have hl : lv_has ls 6 [(0, .ref (ad 9)), (1, .int (iO a0)), (2, .int (iO a1)), (3, .int (iO a2))] := hl
  unfold M4_wants at h
  refine z_aload_n (pc := 0) X.1 hl 0 rfl rfl dX4_wants_0 ?_
  refine z_get7 (pc := 1) X.1 hW rfl iX4_wants_7 0 (by decide) rfl (by decide +kernel) dX4_wants_1 ?_
  refine z_iload_n (pc := 4) X.1 hl 1 rfl rfl dX4_wants_4 ?_
  obtain ⟨q1, eq1, h⟩ := z_bind h
  obtain ⟨g2, h⟩ := z_guard h
  refine z_callV3R (pc := 5) (n := 1) (As := [.int (iO a0)]) (rest := []) X hW hl rfl (C1_at l N 10 a0 rfl μ0 eq1) gX4_wants_X1_at rfl (by decide +kernel) rfl (by decide) rfl (Nat.le_of_ble_eq_true rfl) dX4_wants_5 (fun H locs hW => ?_)
  obtain ⟨q3, eq3, h⟩ := z_bind h
  refine z_callV5I (pc := 8) (n := 0) (As := []) (rest := []) X hW hl g2 (C2_lacking l N q1 g2 μ0 eq3) gX4_wants_X2_lacking rfl (by decide +kernel) rfl (by decide) rfl (Nat.le_of_ble_eq_true rfl) dX4_wants_8 (fun H locs hW => ?_)
  refine z_istore (pc := 11) (i := 4) X.1 [(4, .int (iO q3)), (0, .ref (ad 9)), (1, .int (iO a0)), (2, .int (iO a1)), (3, .int (iO a2))] hl rfl (by decide) rfl dX4_wants_11 (fun ls hl => ?_)
  refine z_iload_n (pc := 13) X.1 hl 3 rfl rfl dX4_wants_13 ?_
  refine z_iconst (pc := 14) X.1 dX4_wants_14 ?_
  obtain ⟨g4, h⟩ := z_guard h
  refine z_icmp_ne (pc := 15) (tgt := 28) X.1 dX4_wants_15 (by decide) ⟨g4, (by decide)⟩ h (fun c11 h => ?_) (fun c11 h => ?_)
  · exact CJ4_wants_28 X N a0 q3 μ0 rfl h _ _ ls hW (lv_sub hl [1, 2, 0] rfl)
  · refine z_iload (pc := 18) X.1 hl 0 rfl dX4_wants_18 ?_
    refine z_iload_n (pc := 20) X.1 hl 4 rfl rfl dX4_wants_20 ?_
    obtain ⟨g9, h⟩ := z_guard h
    refine z_icmp_gt (pc := 21) (tgt := 28) X.1 dX4_wants_21 (by decide) ⟨g9.1, g9.2⟩ h (fun c10 h => ?_) (fun c10 h => ?_)
    · exact CJ4_wants_28 X N a0 q3 μ0 rfl h _ _ ls hW (lv_sub hl [1, 2, 0] rfl)
    · refine z_iconst (pc := 24) X.1 dX4_wants_24 ?_
      refine z_goto (pc := 25) (tgt := 29) X.1 dX4_wants_25 (by decide) ?_
      exact CJ4_wants_29 X N a0 q3 1 μ0 rfl h _ _ ls hW (lv_sub hl [1, 2, 0] rfl)
-- X4_firstWants
theorem iX4_firstWants_3 : ∀ w ∈ wsX10, w ∈ wsX4_firstWants := by decide +kernel
theorem iX4_firstWants_7 : ∀ w ∈ wsX40, w ∈ wsX4_firstWants := by decide +kernel
theorem C4_firstWants (l : Launch) {D : va_G} {cy : ClassId × ClassId} {ad : Nat → Nat} (N : Nat) (a0 : Int) (a1 : Int) (μ0 : mm) {res : Int} (h : M4_firstWants N a0 a1 μ0 = some res) : zI l yX4_firstWants wsX4_firstWants 4 D cy ad [.ref (ad 9), .int (iO a0), .int (iO a1)] μ0 res μ0 := by
  refine zI.of RX4 rfl (by decide) rfl (Nat.le_of_ble_eq_true rfl) ?_
  intro p e s m args below meth c A X hW ls hl
  have hl : lv_has ls 3 [(0, .ref (ad 9)), (1, .int (iO a0)), (2, .int (iO a1))] := hl
  unfold M4_firstWants at h
  refine z_aload_n (pc := 0) X.1 hl 0 rfl rfl dX4_firstWants_0 ?_
  refine z_iload_n (pc := 1) X.1 hl 1 rfl rfl dX4_firstWants_1 ?_
  refine z_iload_n (pc := 2) X.1 hl 2 rfl rfl dX4_firstWants_2 ?_
  refine z_aload_n (pc := 3) X.1 hl 0 rfl rfl dX4_firstWants_3 ?_
  refine z_get7 (pc := 4) X.1 hW rfl iX4_firstWants_7 0 (by decide) rfl (by decide +kernel) dX4_firstWants_4 ?_
  refine z_get3 (pc := 7) X.1 hW rfl iX4_firstWants_3 3 (by decide) rfl (by decide +kernel) dX4_firstWants_7 ?_
  obtain ⟨q1, eq1, h⟩ := z_bind h
  refine z_callV7I (pc := 10) (n := 3) (As := [.int (iO a0), .int (iO a1), .int (iO (μ0 10 3))]) (rest := []) X hW hl rfl (C4_wants l N a0 a1 (μ0 10 3) μ0 eq1) gX4_firstWants_X4_wants rfl (by decide +kernel) rfl (by decide) rfl (Nat.le_of_ble_eq_true rfl) dX4_firstWants_10 (fun H locs hW => ?_)
  exact z_iret (pc := 13) X hW (Option.some.inj h) rfl dX4_firstWants_13
-- X4_otherWants
theorem iX4_otherWants_3 : ∀ w ∈ wsX10, w ∈ wsX4_otherWants := by decide +kernel
theorem iX4_otherWants_7 : ∀ w ∈ wsX40, w ∈ wsX4_otherWants := by decide +kernel
section
variable {p : Program} {l : Launch} {e : Env} {s : State} {m : MethodId} {args : Array Value} {below : List Frame} {meth : Method} {c : Code} {D : va_G} {cy : ClassId × ClassId} {ad : Nat → Nat} {A : Nat → Prop} {res : Int} {μ0 : mm}
theorem CJ4_otherWants_66 (X : zX p s m args meth c cX4_otherWants RX4 wsX4_otherWants 7 D cy ad (some .int) A) (N : Nat) : ∀ (y0 : Int) (y1 : Int) (y2 : Int) (μ : mm) (_ : μ = μ0), J4_otherWants_66 N y0 y1 y2 μ = some res → ∀ (H : Heap) (locs : List Loc) (ls : Array Slot), zW D cy ad A s.heap μ H locs → lv_has ls 7 [] → W p l e (rmD 4) s m args below meth c H locs 0 0 (MQ below (zQi D cy ad A res μ0) args s 0 0 A) (F0 m 66 ls [.int (iO y0), .int (iO y1), .int (iO y2), .ref (ad 9)]) := by
  intro y0 y1 y2 μ em h H locs ls hW hl
  rw [J4_otherWants_66] at h
  obtain ⟨q6, eq6, h⟩ := z_bind h
  refine z_callV7I (pc := 66) (n := 3) (As := [.int (iO y2), .int (iO y1), .int (iO y0)]) (rest := []) X hW hl rfl (C4_wants l N y2 y1 y0 μ eq6) gX4_otherWants_X4_wants rfl (by decide +kernel) rfl (by decide) rfl (Nat.le_of_ble_eq_true rfl) dX4_otherWants_66 (fun H locs hW => ?_)
  exact z_iret (pc := 69) X hW (Option.some.inj h) em dX4_otherWants_69
theorem CJ4_otherWants_35 (X : zX p s m args meth c cX4_otherWants RX4 wsX4_otherWants 7 D cy ad (some .int) A) (N : Nat) : ∀ (x3 : Int) (x4 : Int) (x5 : Int) (y0 : Int) (μ : mm) (_ : μ = μ0), J4_otherWants_35 N x3 x4 x5 y0 μ = some res → ∀ (H : Heap) (locs : List Loc) (ls : Array Slot), zW D cy ad A s.heap μ H locs → lv_has ls 7 [(0, .ref (ad 9)), (3, .int (iO x3)), (4, .int (iO x4)), (5, .int (iO x5))] → W p l e (rmD 4) s m args below meth c H locs 0 0 (MQ below (zQi D cy ad A res μ0) args s 0 0 A) (F0 m 35 ls [.int (iO y0)]) := by
  intro x3 x4 x5 y0 μ em h H locs ls hW hl
  rw [J4_otherWants_35] at h
  refine z_istore (pc := 35) (i := 6) X.1 [(6, .int (iO y0)), (0, .ref (ad 9)), (3, .int (iO x3)), (4, .int (iO x4)), (5, .int (iO x5))] hl rfl (by decide) rfl dX4_otherWants_35 (fun ls hl => ?_)
  refine z_aload_n (pc := 37) X.1 hl 1 rfl rfl dX4_otherWants_37 ?_
  refine z_iload_n (pc := 38) X.1 hl 2 rfl rfl dX4_otherWants_38 ?_
  refine z_iload (pc := 39) X.1 hl 3 rfl dX4_otherWants_39 ?_
  refine z_iload (pc := 41) X.1 hl 0 rfl dX4_otherWants_41 ?_
  obtain ⟨g5, h⟩ := z_guard h
  refine z_if_eq (pc := 43) (tgt := 59) X.1 dX4_otherWants_43 (by decide) g5 h (fun c7 h => ?_) (fun c7 h => ?_)
  · refine z_aload_n (pc := 59) X.1 hl 1 rfl rfl dX4_otherWants_59 ?_
    refine z_get7 (pc := 60) X.1 hW rfl iX4_otherWants_7 0 (by decide) rfl (by decide +kernel) dX4_otherWants_60 ?_
    refine z_get3 (pc := 63) X.1 hW rfl iX4_otherWants_3 3 (by decide) rfl (by decide +kernel) dX4_otherWants_63 ?_
    exact CJ4_otherWants_66 X N (μ 10 3) x4 x3 μ em h _ _ ls hW (lv_sub hl [] rfl)
  · refine z_aload_n (pc := 46) X.1 hl 1 rfl rfl dX4_otherWants_46 ?_
    refine z_get7 (pc := 47) X.1 hW rfl iX4_otherWants_7 0 (by decide) rfl (by decide +kernel) dX4_otherWants_47 ?_
    refine z_get3 (pc := 50) X.1 hW rfl iX4_otherWants_3 3 (by decide) rfl (by decide +kernel) dX4_otherWants_50 ?_
    refine z_iload (pc := 53) X.1 hl 4 rfl dX4_otherWants_53 ?_
    refine z_isub (pc := 55) X.1 dX4_otherWants_55 ?_
    refine z_goto (pc := 56) (tgt := 66) X.1 dX4_otherWants_56 (by decide) ?_
    exact CJ4_otherWants_66 X N ((μ 10 3) - x5) x4 x3 μ em h _ _ ls hW (lv_sub hl [] rfl)
theorem CJ4_otherWants_34 (X : zX p s m args meth c cX4_otherWants RX4 wsX4_otherWants 7 D cy ad (some .int) A) (N : Nat) : ∀ (x3 : Int) (x4 : Int) (x5 : Int) (μ : mm) (_ : μ = μ0), J4_otherWants_34 N x3 x4 x5 μ = some res → ∀ (H : Heap) (locs : List Loc) (ls : Array Slot), zW D cy ad A s.heap μ H locs → lv_has ls 7 [(0, .ref (ad 9)), (3, .int (iO x3)), (4, .int (iO x4)), (5, .int (iO x5))] → W p l e (rmD 4) s m args below meth c H locs 0 0 (MQ below (zQi D cy ad A res μ0) args s 0 0 A) (F0 m 34 ls []) := by
  intro x3 x4 x5 μ em h H locs ls hW hl
  rw [J4_otherWants_34] at h
  refine z_iconst (pc := 34) X.1 dX4_otherWants_34 ?_
  exact CJ4_otherWants_35 X N x3 x4 x5 0 μ em h _ _ ls hW (lv_sub hl [0, 1, 2, 3] rfl)
end
theorem C4_otherWants (l : Launch) {D : va_G} {cy : ClassId × ClassId} {ad : Nat → Nat} (N : Nat) (a0 : Int) (a1 : Int) (a2 : Int) (a3 : Int) (μ0 : mm) {res : Int} (h : M4_otherWants N a0 a1 a2 a3 μ0 = some res) : zI l yX4_otherWants wsX4_otherWants 4 D cy ad [.ref (ad 9), .int (iO a0), .int (iO a1), .int (iO a2), .int (iO a3)] μ0 res μ0 := by
  refine zI.of RX4 rfl (by decide) rfl (Nat.le_of_ble_eq_true rfl) ?_
  intro p e s m args below meth c A X hW ls hl
  have hl : lv_has ls 7 [(0, .ref (ad 9)), (1, .int (iO a0)), (2, .int (iO a1)), (3, .int (iO a2)), (4, .int (iO a3))] := hl
  unfold M4_otherWants at h
  refine z_aload_n (pc := 0) X.1 hl 0 rfl rfl dX4_otherWants_0 ?_
  refine z_get7 (pc := 1) X.1 hW rfl iX4_otherWants_7 0 (by decide) rfl (by decide +kernel) dX4_otherWants_1 ?_
  refine z_iload_n (pc := 4) X.1 hl 1 rfl rfl dX4_otherWants_4 ?_
  obtain ⟨q1, eq1, h⟩ := z_bind h
  obtain ⟨g2, h⟩ := z_guard h
  refine z_callV3R (pc := 5) (n := 1) (As := [.int (iO a0)]) (rest := []) X hW hl rfl (C1_at l N 10 a0 rfl μ0 eq1) gX4_otherWants_X1_at rfl (by decide +kernel) rfl (by decide) rfl (Nat.le_of_ble_eq_true rfl) dX4_otherWants_5 (fun H locs hW => ?_)
  obtain ⟨q3, eq3, h⟩ := z_bind h
  refine z_callV5I (pc := 8) (n := 0) (As := []) (rest := []) X hW hl g2 (C2_lacking l N q1 g2 μ0 eq3) gX4_otherWants_X2_lacking rfl (by decide +kernel) rfl (by decide) rfl (Nat.le_of_ble_eq_true rfl) dX4_otherWants_8 (fun H locs hW => ?_)
  refine z_istore (pc := 11) (i := 5) X.1 [(5, .int (iO q3)), (0, .ref (ad 9)), (1, .int (iO a0)), (2, .int (iO a1)), (3, .int (iO a2)), (4, .int (iO a3))] hl rfl (by decide) rfl dX4_otherWants_11 (fun ls hl => ?_)
  refine z_iload_n (pc := 13) X.1 hl 3 rfl rfl dX4_otherWants_13 ?_
  refine z_iconst (pc := 14) X.1 dX4_otherWants_14 ?_
  obtain ⟨g4, h⟩ := z_guard h
  refine z_icmp_ne (pc := 15) (tgt := 34) X.1 dX4_otherWants_15 (by decide) ⟨g4, (by decide)⟩ h (fun c10 h => ?_) (fun c10 h => ?_)
  · exact CJ4_otherWants_34 X N a2 a3 q3 μ0 rfl h _ _ ls hW (lv_sub hl [1, 4, 5, 0] rfl)
  · refine z_iload (pc := 18) X.1 hl 0 rfl dX4_otherWants_18 ?_
    refine z_aload_n (pc := 20) X.1 hl 1 rfl rfl dX4_otherWants_20 ?_
    refine z_get7 (pc := 21) X.1 hW rfl iX4_otherWants_7 0 (by decide) rfl (by decide +kernel) dX4_otherWants_21 ?_
    refine z_get3 (pc := 24) X.1 hW rfl iX4_otherWants_3 3 (by decide) rfl (by decide +kernel) dX4_otherWants_24 ?_
    obtain ⟨g8, h⟩ := z_guard h
    refine z_icmp_gt (pc := 27) (tgt := 34) X.1 dX4_otherWants_27 (by decide) ⟨g8.1, g8.2⟩ h (fun c9 h => ?_) (fun c9 h => ?_)
    · exact CJ4_otherWants_34 X N a2 a3 q3 μ0 rfl h _ _ ls hW (lv_sub hl [1, 4, 5, 0] rfl)
    · refine z_iconst (pc := 30) X.1 dX4_otherWants_30 ?_
      refine z_goto (pc := 31) (tgt := 35) X.1 dX4_otherWants_31 (by decide) ?_
      exact CJ4_otherWants_35 X N a2 a3 q3 1 μ0 rfl h _ _ ls hW (lv_sub hl [1, 4, 5, 0] rfl)
