-- X5_borrow
theorem iX5_borrow_1 : ∀ w ∈ wsX50, w ∈ wsX5_borrow := by decide +kernel
section
variable {p : Program} {l : Launch} {e : Env} {s : State} {m : MethodId} {args : Array Value} {below : List Frame} {meth : Method} {c : Code} {D : va_G} {cy : ClassId × ClassId} {ad : Nat → Nat} {A : Nat → Prop} {res : (Int × mm)}
theorem CJ5_borrow_211 (X : zX p s m args meth c cX5_borrow RX5 wsX5_borrow 10 D cy ad (some .int) A) (N : Nat) (rec50 : Int → Int → Int → Int → Int → Int → mm → Option (Int × mm)) (hrec50 : ∀ (x1 : Int) (x2 : Int) (x4 : Int) (x5 : Int) (x6 : Int) (x7 : Int) (μ : mm), rec50 x1 x2 x4 x5 x6 x7 μ = some res → ∀ (H : Heap) (locs : List Loc) (ls : Array Slot), zW D cy ad A s.heap μ H locs → lv_has ls 10 [(0, .ref (ad 0)), (1, .int (iO x1)), (2, .int (iO x2)), (4, .int (iO x4)), (5, .int (iO x5)), (6, .int (iO x6)), (7, .int (iO x7))] → W p l e (rmD 7) s m args below meth c H locs 0 0 (MQ below (zQi D cy ad A res.1 res.2) args s 0 0 A) (F0 m 50 ls [])) : ∀ (x1 : Int) (x2 : Int) (x4 : Int) (x5 : Int) (x6 : Int) (x7 : Int) (μ : mm), J5_borrow_211 N rec50 x1 x2 x4 x5 x6 x7 μ = some res → ∀ (H : Heap) (locs : List Loc) (ls : Array Slot), zW D cy ad A s.heap μ H locs → lv_has ls 10 [(0, .ref (ad 0)), (1, .int (iO x1)), (2, .int (iO x2)), (4, .int (iO x4)), (5, .int (iO x5)), (6, .int (iO x6)), (7, .int (iO x7))] → W p l e (rmD 7) s m args below meth c H locs 0 0 (MQ below (zQi D cy ad A res.1 res.2) args s 0 0 A) (F0 m 211 ls []) := by
  intro x1 x2 x4 x5 x6 x7 μ h H locs ls hW hl
  rw [J5_borrow_211] at h
  refine z_iinc (pc := 211) (i := 7) X.1 [(7, .int (iO (x7 + 1))), (0, .ref (ad 0)), (1, .int (iO x1)), (2, .int (iO x2)), (4, .int (iO x4)), (5, .int (iO x5)), (6, .int (iO x6))] hl 6 rfl rfl (by decide) rfl dX5_borrow_211 (fun ls hl => ?_)
  refine z_goto (pc := 214) (tgt := 50) X.1 dX5_borrow_214 (by decide) ?_
  exact hrec50 x1 x2 x4 x5 x6 (x7 + 1) μ h _ _ ls hW (lv_sub hl [1, 2, 3, 4, 5, 6, 0] rfl)
theorem CL5_borrow_50 (X : zX p s m args meth c cX5_borrow RX5 wsX5_borrow 10 D cy ad (some .int) A) (N : Nat) : ∀ (k : Nat) (x1 : Int) (x2 : Int) (x4 : Int) (x5 : Int) (x6 : Int) (x7 : Int) (μ : mm), L5_borrow_50 N k x1 x2 x4 x5 x6 x7 μ = some res → ∀ (H : Heap) (locs : List Loc) (ls : Array Slot), zW D cy ad A s.heap μ H locs → lv_has ls 10 [(0, .ref (ad 0)), (1, .int (iO x1)), (2, .int (iO x2)), (4, .int (iO x4)), (5, .int (iO x5)), (6, .int (iO x6)), (7, .int (iO x7))] → W p l e (rmD 7) s m args below meth c H locs 0 0 (MQ below (zQi D cy ad A res.1 res.2) args s 0 0 A) (F0 m 50 ls []) := by
  intro k
  induction k with
  | zero =>
    intro x1 x2 x4 x5 x6 x7 μ h H locs ls hW hl
    exact absurd h (by rw [L5_borrow_50]; exact fun z => by cases z)
  | succ k ih =>
    intro x1 x2 x4 x5 x6 x7 μ h H locs ls hW hl
    rw [L5_borrow_50] at h
    refine z_iload (pc := 50) X.1 hl 6 rfl dX5_borrow_50 ?_
    refine z_aload_n (pc := 52) X.1 hl 0 rfl rfl dX5_borrow_52 ?_
    refine z_get1 (pc := 53) X.1 hW rfl iX5_borrow_1 0 (by decide) rfl (by decide +kernel) dX5_borrow_53 ?_
    refine z_iconst (pc := 56) X.1 dX5_borrow_56 ?_
    refine z_iald (pc := 57) X.1 hW rfl ⟨(by decide), (by decide)⟩ dX5_borrow_57 ?_
    obtain ⟨g5, h⟩ := z_guard h
    refine z_icmp_ge (pc := 58) (tgt := 217) X.1 dX5_borrow_58 (by decide) ⟨g5.1, g5.2⟩ h (fun c30 h => ?_) (fun c30 h => ?_)
    · refine z_iload (pc := 217) X.1 hl 4 rfl dX5_borrow_217 ?_
      exact z_iret (pc := 219) X hW (z_p1 h) (z_p2 h) dX5_borrow_219
    · refine z_iload (pc := 61) X.1 hl 3 rfl dX5_borrow_61 ?_
      obtain ⟨g6, h⟩ := z_guard h
      refine z_if_le (pc := 63) (tgt := 217) X.1 dX5_borrow_63 (by decide) g6 h (fun c29 h => ?_) (fun c29 h => ?_)
      · refine z_iload (pc := 217) X.1 hl 4 rfl dX5_borrow_217 ?_
        exact z_iret (pc := 219) X hW (z_p1 h) (z_p2 h) dX5_borrow_219
      · refine z_iload (pc := 66) X.1 hl 6 rfl dX5_borrow_66 ?_
        refine z_iload_n (pc := 68) X.1 hl 1 rfl rfl dX5_borrow_68 ?_
        obtain ⟨g7, h⟩ := z_guard h
        refine z_icmp_eq (pc := 69) (tgt := 211) X.1 dX5_borrow_69 (by decide) ⟨g7.1, g7.2⟩ h (fun c28 h => ?_) (fun c28 h => ?_)
        · exact CJ5_borrow_211 X N (L5_borrow_50 N k) ih x1 x2 x4 x5 x6 x7 μ h _ _ ls hW (lv_sub hl [0, 1, 2, 3, 4, 5, 6] rfl)
        · refine z_aload_n (pc := 72) X.1 hl 0 rfl rfl dX5_borrow_72 ?_
          refine z_get1 (pc := 73) X.1 hW rfl iX5_borrow_1 0 (by decide) rfl (by decide +kernel) dX5_borrow_73 ?_
          refine z_iload (pc := 76) X.1 hl 6 rfl dX5_borrow_76 ?_
          refine z_iconst (pc := 78) X.1 dX5_borrow_78 ?_
          refine z_callSI (pc := 79) (n := 2) (As := [.int (iO x7), .int (iO 2)]) (rest := [.ref (ad 1)]) X hW hl (C5_of l N x7 2 μ) gX5_borrow_X5_of rfl (by decide +kernel) rfl (by decide) rfl (Nat.le_of_ble_eq_true rfl) dX5_borrow_79 (fun H locs hW => ?_)
          obtain ⟨g8, h⟩ := z_guard h
          refine z_iald (pc := 82) X.1 hW rfl ⟨g8.1, g8.2⟩ dX5_borrow_82 ?_
          refine z_iload (pc := 83) X.1 hl 3 rfl dX5_borrow_83 ?_
          obtain ⟨g9, h⟩ := z_guard h
          refine z_icmp_ge (pc := 85) (tgt := 91) X.1 dX5_borrow_85 (by decide) ⟨g9.1, g9.2⟩ h (fun c27 h => ?_) (fun c27 h => ?_)
          · refine z_aload_n (pc := 91) X.1 hl 0 rfl rfl dX5_borrow_91 ?_
            refine z_iload_n (pc := 92) X.1 hl 2 rfl rfl dX5_borrow_92 ?_
            obtain ⟨q10, eq10, h⟩ := z_bind h
            refine z_callV1V (pc := 93) (n := 1) (As := [.int (iO x2)]) (rest := []) X hW hl rfl (C5_takes l N x2 μ eq10) gX5_borrow_X5_takes rfl (by decide +kernel) rfl (by decide) rfl (Nat.le_of_ble_eq_true rfl) dX5_borrow_93 (fun H locs hW => ?_)
            refine z_aload_n (pc := 96) X.1 hl 0 rfl rfl dX5_borrow_96 ?_
            refine z_aload_n (pc := 97) X.1 hl 0 rfl rfl dX5_borrow_97 ?_
            refine z_get1 (pc := 98) X.1 hW rfl iX5_borrow_1 1 (by decide) rfl (by decide +kernel) dX5_borrow_98 ?_
            refine z_iload_n (pc := 101) X.1 hl 1 rfl rfl dX5_borrow_101 ?_
            obtain ⟨q11, eq11, h⟩ := z_bind h
            refine z_callV1I (pc := 102) (n := 2) (As := [.ref (ad 2), .int (iO x1)]) (rest := []) X hW hl rfl (C5_throughOf l N 2 x1 (by decide) q10 eq11) gX5_borrow_X5_throughOf rfl (by decide +kernel) rfl (by decide) rfl (Nat.le_of_ble_eq_true rfl) dX5_borrow_102 (fun H locs hW => ?_)
            refine z_aload_n (pc := 105) X.1 hl 0 rfl rfl dX5_borrow_105 ?_
            refine z_aload_n (pc := 106) X.1 hl 0 rfl rfl dX5_borrow_106 ?_
            refine z_get1 (pc := 107) X.1 hW rfl iX5_borrow_1 1 (by decide) rfl (by decide +kernel) dX5_borrow_107 ?_
            refine z_iload (pc := 110) X.1 hl 6 rfl dX5_borrow_110 ?_
            obtain ⟨q12, eq12, h⟩ := z_bind h
            refine z_callV1I (pc := 112) (n := 2) (As := [.ref (ad 2), .int (iO x7)]) (rest := [.int (iO q11)]) X hW hl rfl (C5_throughOf l N 2 x7 (by decide) q10 eq12) gX5_borrow_X5_throughOf rfl (by decide +kernel) rfl (by decide) rfl (Nat.le_of_ble_eq_true rfl) dX5_borrow_112 (fun H locs hW => ?_)
            refine z_iadd (pc := 115) X.1 dX5_borrow_115 ?_
            obtain ⟨w13, ew13, h⟩ := z_bnd h
            refine z_istore (pc := 116) (i := 8) X.1 [(8, .int (iO w13)), (0, .ref (ad 0)), (1, .int (iO x1)), (2, .int (iO x2)), (4, .int (iO x4)), (5, .int (iO x5)), (6, .int (iO x6)), (7, .int (iO x7))] hl ew13 (by decide) rfl dX5_borrow_116 (fun ls hl => ?_)
            refine z_aload_n (pc := 118) X.1 hl 1 rfl rfl dX5_borrow_118 ?_
            refine z_get1 (pc := 119) X.1 hW rfl iX5_borrow_1 0 (by decide) rfl (by decide +kernel) dX5_borrow_119 ?_
            refine z_aload_n (pc := 122) X.1 hl 1 rfl rfl dX5_borrow_122 ?_
            refine z_get1 (pc := 123) X.1 hW rfl iX5_borrow_1 1 (by decide) rfl (by decide +kernel) dX5_borrow_123 ?_
            obtain ⟨q14, eq14, h⟩ := z_bind h
            refine z_callSV (pc := 126) (n := 2) (As := [.ref (ad 1), .ref (ad 2)]) (rest := []) X hW hl (C5_copies l N 1 2 (by decide) (by decide) q10 eq14) gX5_borrow_X5_copies rfl (by decide +kernel) rfl (by decide) rfl (Nat.le_of_ble_eq_true rfl) dX5_borrow_126 (fun H locs hW => ?_)
            refine z_aload_n (pc := 129) X.1 hl 1 rfl rfl dX5_borrow_129 ?_
            refine z_get1 (pc := 130) X.1 hW rfl iX5_borrow_1 1 (by decide) rfl (by decide +kernel) dX5_borrow_130 ?_
            refine z_iload (pc := 133) X.1 hl 7 rfl dX5_borrow_133 ?_
            refine z_iconst (pc := 135) X.1 dX5_borrow_135 ?_
            refine z_callSI (pc := 136) (n := 2) (As := [.int (iO x7), .int (iO 2)]) (rest := [.ref (ad 2)]) X hW hl (C5_of l N x7 2 q14) gX5_borrow_X5_of rfl (by decide +kernel) rfl (by decide) rfl (Nat.le_of_ble_eq_true rfl) dX5_borrow_136 (fun H locs hW => ?_)
            refine z_dup2 (pc := 139) X.1 dX5_borrow_139 rfl rfl ?_
            obtain ⟨g15, h⟩ := z_guard h
            refine z_iald (pc := 140) X.1 hW rfl ⟨g15.1, g15.2⟩ dX5_borrow_140 ?_
            refine z_iload (pc := 141) X.1 hl 4 rfl dX5_borrow_141 ?_
            refine z_isub (pc := 143) X.1 dX5_borrow_143 ?_
            obtain ⟨g16, h⟩ := z_guard h
            obtain ⟨μ17, eμ17, h⟩ := z_bnd h
            refine z_iast (pc := 144) X.1 hW rfl ⟨g16.1, g16.2⟩ dX5_borrow_144 (fun H locs hW => ?_)
            replace hW : zW D cy ad A s.heap μ17 H locs := by rw [eμ17]; exact hW
            refine z_aload_n (pc := 145) X.1 hl 1 rfl rfl dX5_borrow_145 ?_
            refine z_get1 (pc := 146) X.1 hW rfl iX5_borrow_1 1 (by decide) rfl (by decide +kernel) dX5_borrow_146 ?_
            refine z_iload_n (pc := 149) X.1 hl 2 rfl rfl dX5_borrow_149 ?_
            refine z_iconst (pc := 150) X.1 dX5_borrow_150 ?_
            refine z_callSI (pc := 151) (n := 2) (As := [.int (iO x1), .int (iO 2)]) (rest := [.ref (ad 2)]) X hW hl (C5_of l N x1 2 μ17) gX5_borrow_X5_of rfl (by decide +kernel) rfl (by decide) rfl (Nat.le_of_ble_eq_true rfl) dX5_borrow_151 (fun H locs hW => ?_)
            refine z_dup2 (pc := 154) X.1 dX5_borrow_154 rfl rfl ?_
            obtain ⟨g18, h⟩ := z_guard h
            refine z_iald (pc := 155) X.1 hW rfl ⟨g18.1, g18.2⟩ dX5_borrow_155 ?_
            refine z_iload (pc := 156) X.1 hl 4 rfl dX5_borrow_156 ?_
            refine z_iadd (pc := 158) X.1 dX5_borrow_158 ?_
            obtain ⟨g19, h⟩ := z_guard h
            obtain ⟨μ20, eμ20, h⟩ := z_bnd h
            refine z_iast (pc := 159) X.1 hW rfl ⟨g19.1, g19.2⟩ dX5_borrow_159 (fun H locs hW => ?_)
            replace hW : zW D cy ad A s.heap μ20 H locs := by rw [eμ20]; exact hW
            refine z_aload_n (pc := 160) X.1 hl 1 rfl rfl dX5_borrow_160 ?_
            refine z_get1 (pc := 161) X.1 hW rfl iX5_borrow_1 1 (by decide) rfl (by decide +kernel) dX5_borrow_161 ?_
            refine z_iload_n (pc := 164) X.1 hl 3 rfl rfl dX5_borrow_164 ?_
            obtain ⟨q21, eq21, h⟩ := z_bind h
            refine z_callSV (pc := 165) (n := 2) (As := [.ref (ad 2), .int (iO x2)]) (rest := []) X hW hl (C5_daysOn l N 2 x2 (by decide) μ20 eq21) gX5_borrow_X5_daysOn rfl (by decide +kernel) rfl (by decide) rfl (Nat.le_of_ble_eq_true rfl) dX5_borrow_165 (fun H locs hW => ?_)
            refine z_aload_n (pc := 168) X.1 hl 1 rfl rfl dX5_borrow_168 ?_
            refine z_aload_n (pc := 169) X.1 hl 1 rfl rfl dX5_borrow_169 ?_
            refine z_get1 (pc := 170) X.1 hW rfl iX5_borrow_1 1 (by decide) rfl (by decide +kernel) dX5_borrow_170 ?_
            refine z_iload_n (pc := 173) X.1 hl 2 rfl rfl dX5_borrow_173 ?_
            obtain ⟨q22, eq22, h⟩ := z_bind h
            refine z_callV1I (pc := 174) (n := 2) (As := [.ref (ad 2), .int (iO x1)]) (rest := []) X hW hl rfl (C5_throughOf l N 2 x1 (by decide) q21 eq22) gX5_borrow_X5_throughOf rfl (by decide +kernel) rfl (by decide) rfl (Nat.le_of_ble_eq_true rfl) dX5_borrow_174 (fun H locs hW => ?_)
            refine z_aload_n (pc := 177) X.1 hl 1 rfl rfl dX5_borrow_177 ?_
            refine z_aload_n (pc := 178) X.1 hl 1 rfl rfl dX5_borrow_178 ?_
            refine z_get1 (pc := 179) X.1 hW rfl iX5_borrow_1 1 (by decide) rfl (by decide +kernel) dX5_borrow_179 ?_
            refine z_iload (pc := 182) X.1 hl 7 rfl dX5_borrow_182 ?_
            obtain ⟨q23, eq23, h⟩ := z_bind h
            refine z_callV1I (pc := 184) (n := 2) (As := [.ref (ad 2), .int (iO x7)]) (rest := [.int (iO q22)]) X hW hl rfl (C5_throughOf l N 2 x7 (by decide) q21 eq23) gX5_borrow_X5_throughOf rfl (by decide +kernel) rfl (by decide) rfl (Nat.le_of_ble_eq_true rfl) dX5_borrow_184 (fun H locs hW => ?_)
            refine z_iadd (pc := 187) X.1 dX5_borrow_187 ?_
            refine z_iload (pc := 188) X.1 hl 0 rfl dX5_borrow_188 ?_
            refine z_isub (pc := 190) X.1 dX5_borrow_190 ?_
            obtain ⟨w24, ew24, h⟩ := z_bnd h
            refine z_istore (pc := 191) (i := 9) X.1 [(9, .int (iO w24)), (8, .int (iO w13)), (0, .ref (ad 0)), (1, .int (iO x1)), (2, .int (iO x2)), (4, .int (iO x4)), (5, .int (iO x5)), (6, .int (iO x6)), (7, .int (iO x7))] hl ew24 (by decide) rfl dX5_borrow_191 (fun ls hl => ?_)
            refine z_iload (pc := 193) X.1 hl 0 rfl dX5_borrow_193 ?_
            refine z_iload (pc := 195) X.1 hl 7 rfl dX5_borrow_195 ?_
            obtain ⟨g25, h⟩ := z_guard h
            refine z_icmp_gt (pc := 197) (tgt := 203) X.1 dX5_borrow_197 (by decide) ⟨g25.1, g25.2⟩ h (fun c26 h => ?_) (fun c26 h => ?_)
            · refine z_iload (pc := 203) X.1 hl 8 rfl dX5_borrow_203 ?_
              refine z_istore (pc := 205) (i := 5) X.1 [(5, .int (iO x7)), (9, .int (iO w24)), (8, .int (iO w13)), (0, .ref (ad 0)), (1, .int (iO x1)), (2, .int (iO x2)), (4, .int (iO x4)), (6, .int (iO x6)), (7, .int (iO x7))] hl rfl (by decide) rfl dX5_borrow_205 (fun ls hl => ?_)
              refine z_iload (pc := 207) X.1 hl 1 rfl dX5_borrow_207 ?_
              refine z_istore (pc := 209) (i := 6) X.1 [(6, .int (iO w24)), (5, .int (iO x7)), (9, .int (iO w24)), (8, .int (iO w13)), (0, .ref (ad 0)), (1, .int (iO x1)), (2, .int (iO x2)), (4, .int (iO x4)), (7, .int (iO x7))] hl rfl (by decide) rfl dX5_borrow_209 (fun ls hl => ?_)
              exact CJ5_borrow_211 X N (L5_borrow_50 N k) ih x1 x2 x4 x7 w24 x7 q21 h _ _ ls hW (lv_sub hl [4, 5, 6, 7, 1, 0, 8] rfl)
            · refine z_goto (pc := 200) (tgt := 211) X.1 dX5_borrow_200 (by decide) ?_
              exact CJ5_borrow_211 X N (L5_borrow_50 N k) ih x1 x2 x4 x5 x6 x7 q21 h _ _ ls hW (lv_sub hl [2, 3, 4, 5, 6, 7, 8] rfl)
          · refine z_goto (pc := 88) (tgt := 211) X.1 dX5_borrow_88 (by decide) ?_
            exact CJ5_borrow_211 X N (L5_borrow_50 N k) ih x1 x2 x4 x5 x6 x7 μ h _ _ ls hW (lv_sub hl [0, 1, 2, 3, 4, 5, 6] rfl)
theorem CJ5_borrow_19 (X : zX p s m args meth c cX5_borrow RX5 wsX5_borrow 10 D cy ad (some .int) A) (N : Nat) : ∀ (x1 : Int) (x2 : Int) (y0 : Int) (μ : mm), J5_borrow_19 N x1 x2 y0 μ = some res → ∀ (H : Heap) (locs : List Loc) (ls : Array Slot), zW D cy ad A s.heap μ H locs → lv_has ls 10 [(0, .ref (ad 0)), (1, .int (iO x1)), (2, .int (iO x2))] → W p l e (rmD 7) s m args below meth c H locs 0 0 (MQ below (zQi D cy ad A res.1 res.2) args s 0 0 A) (F0 m 19 ls [.int (iO y0)]) := by
  intro x1 x2 y0 μ h H locs ls hW hl
  rw [J5_borrow_19] at h
  refine z_istore_n (pc := 19) (i := 3) X.1 [(3, .int (iO y0)), (0, .ref (ad 0)), (1, .int (iO x1)), (2, .int (iO x2))] hl rfl rfl (by decide) rfl dX5_borrow_19 (fun ls hl => ?_)
  refine z_iload_n (pc := 20) X.1 hl 0 rfl rfl dX5_borrow_20 ?_
  obtain ⟨g3, h⟩ := z_guard h
  refine z_if_eq (pc := 21) (tgt := 30) X.1 dX5_borrow_21 (by decide) g3 h (fun c32 h => ?_) (fun c32 h => ?_)
  · refine z_aload_n (pc := 30) X.1 hl 1 rfl rfl dX5_borrow_30 ?_
    refine z_get1 (pc := 31) X.1 hW rfl iX5_borrow_1 0 (by decide) rfl (by decide +kernel) dX5_borrow_31 ?_
    refine z_iload_n (pc := 34) X.1 hl 2 rfl rfl dX5_borrow_34 ?_
    obtain ⟨q4, eq4, h⟩ := z_bind h
    refine z_callSI (pc := 35) (n := 2) (As := [.ref (ad 1), .int (iO x1)]) (rest := []) X hW hl (C5_lacksIn l N 1 x1 (by decide) μ eq4) gX5_borrow_X5_lacksIn rfl (by decide +kernel) rfl (by decide) rfl (Nat.le_of_ble_eq_true rfl) dX5_borrow_35 (fun H locs hW => ?_)
    refine z_istore (pc := 38) (i := 4) X.1 [(4, .int (iO q4)), (3, .int (iO y0)), (0, .ref (ad 0)), (1, .int (iO x1)), (2, .int (iO x2))] hl rfl (by decide) rfl dX5_borrow_38 (fun ls hl => ?_)
    refine z_bipush (pc := 40) X.1 dX5_borrow_40 (by decide) ?_
    refine z_istore (pc := 42) (i := 5) X.1 [(5, .int (iO (-9))), (4, .int (iO q4)), (3, .int (iO y0)), (0, .ref (ad 0)), (1, .int (iO x1)), (2, .int (iO x2))] hl rfl (by decide) rfl dX5_borrow_42 (fun ls hl => ?_)
    refine z_iconst (pc := 44) X.1 dX5_borrow_44 ?_
    refine z_istore (pc := 45) (i := 6) X.1 [(6, .int (iO 0)), (5, .int (iO (-9))), (4, .int (iO q4)), (3, .int (iO y0)), (0, .ref (ad 0)), (1, .int (iO x1)), (2, .int (iO x2))] hl rfl (by decide) rfl dX5_borrow_45 (fun ls hl => ?_)
    refine z_iconst (pc := 47) X.1 dX5_borrow_47 ?_
    refine z_istore (pc := 48) (i := 7) X.1 [(7, .int (iO 0)), (6, .int (iO 0)), (5, .int (iO (-9))), (4, .int (iO q4)), (3, .int (iO y0)), (0, .ref (ad 0)), (1, .int (iO x1)), (2, .int (iO x2))] hl rfl (by decide) rfl dX5_borrow_48 (fun ls hl => ?_)
    exact CL5_borrow_50 X N N x1 x2 q4 (-9) 0 0 μ h _ _ ls hW (lv_sub hl [5, 6, 7, 3, 2, 1, 0] rfl)
  · refine z_aload_n (pc := 24) X.1 hl 1 rfl rfl dX5_borrow_24 ?_
    refine z_iload_n (pc := 25) X.1 hl 0 rfl rfl dX5_borrow_25 ?_
    obtain ⟨q31, eq31, h⟩ := z_bind h
    refine z_callV1I (pc := 26) (n := 1) (As := [.int (iO y0)]) (rest := []) X hW hl rfl (C5_no l N y0 μ eq31) gX5_borrow_X5_no rfl (by decide +kernel) rfl (by decide) rfl (Nat.le_of_ble_eq_true rfl) dX5_borrow_26 (fun H locs hW => ?_)
    exact z_iret (pc := 29) X hW (z_p1 h) (z_p2 h) dX5_borrow_29
end
theorem C5_borrow (l : Launch) {D : va_G} {cy : ClassId × ClassId} {ad : Nat → Nat} (N : Nat) (a0 : Int) (a1 : Int) (μ : mm) {res : (Int × mm)} (h : M5_borrow N a0 a1 μ = some res) : zI l yX5_borrow wsX5_borrow 7 D cy ad [.ref (ad 0), .int (iO a0), .int (iO a1)] μ res.1 res.2 := by
  refine zI.of RX5 rfl (by decide) rfl (Nat.le_of_ble_eq_true rfl) ?_
  intro p e s m args below meth c A X hW ls hl
  have hl : lv_has ls 10 [(0, .ref (ad 0)), (1, .int (iO a0)), (2, .int (iO a1))] := hl
  unfold M5_borrow at h
  refine z_aload_n (pc := 0) X.1 hl 0 rfl rfl dX5_borrow_0 ?_
  refine z_iload_n (pc := 1) X.1 hl 1 rfl rfl dX5_borrow_1 ?_
  obtain ⟨q1, eq1, h⟩ := z_bind h
  refine z_callV1I (pc := 2) (n := 1) (As := [.int (iO a0)]) (rest := []) X hW hl rfl (C5_isOne l N a0 μ eq1) gX5_borrow_X5_isOne rfl (by decide +kernel) rfl (by decide) rfl (Nat.le_of_ble_eq_true rfl) dX5_borrow_2 (fun H locs hW => ?_)
  obtain ⟨g2, h⟩ := z_guard h
  refine z_if_eq (pc := 5) (tgt := 18) X.1 dX5_borrow_5 (by decide) g2 h (fun c34 h => ?_) (fun c34 h => ?_)
  · refine z_iconst (pc := 18) X.1 dX5_borrow_18 ?_
    exact CJ5_borrow_19 X N a0 a1 (-1) μ h _ _ ls hW (lv_sub hl [0, 1, 2] rfl)
  · refine z_iload_n (pc := 8) X.1 hl 2 rfl rfl dX5_borrow_8 ?_
    refine z_iconst (pc := 9) X.1 dX5_borrow_9 ?_
    refine z_bipush (pc := 10) X.1 dX5_borrow_10 (by decide) ?_
    obtain ⟨q33, eq33, h⟩ := z_bind h
    refine z_callSI (pc := 12) (n := 3) (As := [.int (iO a1), .int (iO 1), .int (iO 30)]) (rest := []) X hW hl (C5_wrongBy l N a1 1 30 μ eq33) gX5_borrow_X5_wrongBy rfl (by decide +kernel) rfl (by decide) rfl (Nat.le_of_ble_eq_true rfl) dX5_borrow_12 (fun H locs hW => ?_)
    refine z_goto (pc := 15) (tgt := 19) X.1 dX5_borrow_15 (by decide) ?_
    exact CJ5_borrow_19 X N a0 a1 q33 μ h _ _ ls hW (lv_sub hl [0, 1, 2] rfl)
-- X5_sweep
theorem iX5_sweep_1 : ∀ w ∈ wsX50, w ∈ wsX5_sweep := by decide +kernel
section
variable {p : Program} {l : Launch} {e : Env} {s : State} {m : MethodId} {args : Array Value} {below : List Frame} {meth : Method} {c : Code} {D : va_G} {cy : ClassId × ClassId} {ad : Nat → Nat} {A : Nat → Prop} {res : (Int × mm)}
theorem CJ5_sweep_147 (X : zX p s m args meth c cX5_sweep RX5 wsX5_sweep 9 D cy ad (some .int) A) (N : Nat) (rec60 : Int → Int → Int → Int → Int → Int → mm → Option (Int × mm)) (hrec60 : ∀ (x1 : Int) (x2 : Int) (x4 : Int) (x5 : Int) (x6 : Int) (x7 : Int) (μ : mm), rec60 x1 x2 x4 x5 x6 x7 μ = some res → ∀ (H : Heap) (locs : List Loc) (ls : Array Slot), zW D cy ad A s.heap μ H locs → lv_has ls 9 [(0, .ref (ad 0)), (1, .int (iO x1)), (2, .int (iO x2)), (4, .int (iO x4)), (5, .int (iO x5)), (6, .int (iO x6)), (7, .int (iO x7))] → W p l e (rmD 7) s m args below meth c H locs 0 0 (MQ below (zQi D cy ad A res.1 res.2) args s 0 0 A) (F0 m 60 ls [])) : ∀ (x1 : Int) (x2 : Int) (x4 : Int) (x5 : Int) (x6 : Int) (x7 : Int) (μ : mm), J5_sweep_147 N rec60 x1 x2 x4 x5 x6 x7 μ = some res → ∀ (H : Heap) (locs : List Loc) (ls : Array Slot), zW D cy ad A s.heap μ H locs → lv_has ls 9 [(0, .ref (ad 0)), (1, .int (iO x1)), (2, .int (iO x2)), (4, .int (iO x4)), (5, .int (iO x5)), (6, .int (iO x6)), (7, .int (iO x7))] → W p l e (rmD 7) s m args below meth c H locs 0 0 (MQ below (zQi D cy ad A res.1 res.2) args s 0 0 A) (F0 m 147 ls []) := by
  intro x1 x2 x4 x5 x6 x7 μ h H locs ls hW hl
  rw [J5_sweep_147] at h
  refine z_iinc (pc := 147) (i := 7) X.1 [(7, .int (iO (x7 + 1))), (0, .ref (ad 0)), (1, .int (iO x1)), (2, .int (iO x2)), (4, .int (iO x4)), (5, .int (iO x5)), (6, .int (iO x6))] hl 6 rfl rfl (by decide) rfl dX5_sweep_147 (fun ls hl => ?_)
  refine z_goto (pc := 150) (tgt := 60) X.1 dX5_sweep_150 (by decide) ?_
  exact hrec60 x1 x2 x4 x5 x6 (x7 + 1) μ h _ _ ls hW (lv_sub hl [1, 2, 3, 4, 5, 6, 0] rfl)
theorem CL5_sweep_60 (X : zX p s m args meth c cX5_sweep RX5 wsX5_sweep 9 D cy ad (some .int) A) (N : Nat) : ∀ (k : Nat) (x1 : Int) (x2 : Int) (x4 : Int) (x5 : Int) (x6 : Int) (x7 : Int) (μ : mm), L5_sweep_60 N k x1 x2 x4 x5 x6 x7 μ = some res → ∀ (H : Heap) (locs : List Loc) (ls : Array Slot), zW D cy ad A s.heap μ H locs → lv_has ls 9 [(0, .ref (ad 0)), (1, .int (iO x1)), (2, .int (iO x2)), (4, .int (iO x4)), (5, .int (iO x5)), (6, .int (iO x6)), (7, .int (iO x7))] → W p l e (rmD 7) s m args below meth c H locs 0 0 (MQ below (zQi D cy ad A res.1 res.2) args s 0 0 A) (F0 m 60 ls []) := by
  intro k
  induction k with
  | zero =>
    intro x1 x2 x4 x5 x6 x7 μ h H locs ls hW hl
    exact absurd h (by rw [L5_sweep_60]; exact fun z => by cases z)
  | succ k ih =>
    intro x1 x2 x4 x5 x6 x7 μ h H locs ls hW hl
    rw [L5_sweep_60] at h
    refine z_iload (pc := 60) X.1 hl 6 rfl dX5_sweep_60 ?_
    refine z_aload_n (pc := 62) X.1 hl 0 rfl rfl dX5_sweep_62 ?_
    refine z_get1 (pc := 63) X.1 hW rfl iX5_sweep_1 0 (by decide) rfl (by decide +kernel) dX5_sweep_63 ?_
    refine z_iconst (pc := 66) X.1 dX5_sweep_66 ?_
    refine z_iald (pc := 67) X.1 hW rfl ⟨(by decide), (by decide)⟩ dX5_sweep_67 ?_
    obtain ⟨g6, h⟩ := z_guard h
    refine z_icmp_ge (pc := 68) (tgt := 153) X.1 dX5_sweep_68 (by decide) ⟨g6.1, g6.2⟩ h (fun c21 h => ?_) (fun c21 h => ?_)
    · refine z_iload (pc := 153) X.1 hl 4 rfl dX5_sweep_153 ?_
      obtain ⟨g7, h⟩ := z_guard h
      refine z_if_lt (pc := 155) (tgt := 162) X.1 dX5_sweep_155 (by decide) g7 h (fun c10 h => ?_) (fun c10 h => ?_)
      · refine z_iload (pc := 162) X.1 hl 4 rfl dX5_sweep_162 ?_
        refine z_goto (pc := 164) (tgt := 169) X.1 dX5_sweep_164 (by decide) ?_
        exact z_iret (pc := 169) X hW (z_p1 h) (z_p2 h) dX5_sweep_169
      · refine z_iload_n (pc := 158) X.1 hl 2 rfl rfl dX5_sweep_158 ?_
        obtain ⟨g8, h⟩ := z_guard h
        refine z_if_ne (pc := 159) (tgt := 167) X.1 dX5_sweep_159 (by decide) g8 h (fun c9 h => ?_) (fun c9 h => ?_)
        · refine z_iload (pc := 167) X.1 hl 5 rfl dX5_sweep_167 ?_
          exact z_iret (pc := 169) X hW (z_p1 h) (z_p2 h) dX5_sweep_169
        · refine z_iload (pc := 162) X.1 hl 4 rfl dX5_sweep_162 ?_
          refine z_goto (pc := 164) (tgt := 169) X.1 dX5_sweep_164 (by decide) ?_
          exact z_iret (pc := 169) X hW (z_p1 h) (z_p2 h) dX5_sweep_169
    · refine z_aload_n (pc := 71) X.1 hl 0 rfl rfl dX5_sweep_71 ?_
      refine z_get1 (pc := 72) X.1 hW rfl iX5_sweep_1 0 (by decide) rfl (by decide +kernel) dX5_sweep_72 ?_
      refine z_iload (pc := 75) X.1 hl 6 rfl dX5_sweep_75 ?_
      refine z_iconst (pc := 77) X.1 dX5_sweep_77 ?_
      refine z_callSI (pc := 78) (n := 2) (As := [.int (iO x7), .int (iO 2)]) (rest := [.ref (ad 1)]) X hW hl (C5_of l N x7 2 μ) gX5_sweep_X5_of rfl (by decide +kernel) rfl (by decide) rfl (Nat.le_of_ble_eq_true rfl) dX5_sweep_78 (fun H locs hW => ?_)
      obtain ⟨g11, h⟩ := z_guard h
      refine z_iald (pc := 81) X.1 hW rfl ⟨g11.1, g11.2⟩ dX5_sweep_81 ?_
      obtain ⟨g12, h⟩ := z_guard h
      refine z_if_ne (pc := 82) (tgt := 88) X.1 dX5_sweep_82 (by decide) g12 h (fun c20 h => ?_) (fun c20 h => ?_)
      · refine z_aload_n (pc := 88) X.1 hl 0 rfl rfl dX5_sweep_88 ?_
        refine z_get1 (pc := 89) X.1 hW rfl iX5_sweep_1 0 (by decide) rfl (by decide +kernel) dX5_sweep_89 ?_
        refine z_aload_n (pc := 92) X.1 hl 0 rfl rfl dX5_sweep_92 ?_
        refine z_get1 (pc := 93) X.1 hW rfl iX5_sweep_1 1 (by decide) rfl (by decide +kernel) dX5_sweep_93 ?_
        obtain ⟨q13, eq13, h⟩ := z_bind h
        refine z_callSV (pc := 96) (n := 2) (As := [.ref (ad 1), .ref (ad 2)]) (rest := []) X hW hl (C5_copies l N 1 2 (by decide) (by decide) μ eq13) gX5_sweep_X5_copies rfl (by decide +kernel) rfl (by decide) rfl (Nat.le_of_ble_eq_true rfl) dX5_sweep_96 (fun H locs hW => ?_)
        refine z_aload_n (pc := 99) X.1 hl 0 rfl rfl dX5_sweep_99 ?_
        refine z_get1 (pc := 100) X.1 hW rfl iX5_sweep_1 1 (by decide) rfl (by decide +kernel) dX5_sweep_100 ?_
        refine z_iload (pc := 103) X.1 hl 6 rfl dX5_sweep_103 ?_
        obtain ⟨q14, eq14, h⟩ := z_bind h
        refine z_callSV (pc := 105) (n := 2) (As := [.ref (ad 2), .int (iO x7)]) (rest := []) X hW hl (C5_handsIn l N 2 x7 (by decide) q13 eq14) gX5_sweep_X5_handsIn rfl (by decide +kernel) rfl (by decide) rfl (Nat.le_of_ble_eq_true rfl) dX5_sweep_105 (fun H locs hW => ?_)
        refine z_aload_n (pc := 108) X.1 hl 0 rfl rfl dX5_sweep_108 ?_
        refine z_get1 (pc := 109) X.1 hW rfl iX5_sweep_1 1 (by decide) rfl (by decide +kernel) dX5_sweep_109 ?_
        refine z_iload_n (pc := 112) X.1 hl 1 rfl rfl dX5_sweep_112 ?_
        obtain ⟨q15, eq15, h⟩ := z_bind h
        refine z_callSV (pc := 113) (n := 2) (As := [.ref (ad 2), .int (iO x1)]) (rest := []) X hW hl (C5_daysOn l N 2 x1 (by decide) q14 eq15) gX5_sweep_X5_daysOn rfl (by decide +kernel) rfl (by decide) rfl (Nat.le_of_ble_eq_true rfl) dX5_sweep_113 (fun H locs hW => ?_)
        refine z_aload_n (pc := 116) X.1 hl 0 rfl rfl dX5_sweep_116 ?_
        refine z_get1 (pc := 117) X.1 hW rfl iX5_sweep_1 1 (by decide) rfl (by decide +kernel) dX5_sweep_117 ?_
        refine z_iconst (pc := 120) X.1 dX5_sweep_120 ?_
        obtain ⟨q16, eq16, h⟩ := z_bind h
        refine z_callSI (pc := 121) (n := 2) (As := [.ref (ad 2), .int (iO 5)]) (rest := []) X hW hl (C5_allOf l N 2 5 (by decide) q15 eq16) gX5_sweep_X5_allOf rfl (by decide +kernel) rfl (by decide) rfl (Nat.le_of_ble_eq_true rfl) dX5_sweep_121 (fun H locs hW => ?_)
        refine z_iload (pc := 124) X.1 hl 3 rfl dX5_sweep_124 ?_
        refine z_isub (pc := 126) X.1 dX5_sweep_126 ?_
        obtain ⟨w17, ew17, h⟩ := z_bnd h
        refine z_istore (pc := 127) (i := 8) X.1 [(8, .int (iO w17)), (0, .ref (ad 0)), (1, .int (iO x1)), (2, .int (iO x2)), (4, .int (iO x4)), (5, .int (iO x5)), (6, .int (iO x6)), (7, .int (iO x7))] hl ew17 (by decide) rfl dX5_sweep_127 (fun ls hl => ?_)
        refine z_iload (pc := 129) X.1 hl 0 rfl dX5_sweep_129 ?_
        refine z_iload (pc := 131) X.1 hl 6 rfl dX5_sweep_131 ?_
        obtain ⟨g18, h⟩ := z_guard h
        refine z_icmp_lt (pc := 133) (tgt := 139) X.1 dX5_sweep_133 (by decide) ⟨g18.1, g18.2⟩ h (fun c19 h => ?_) (fun c19 h => ?_)
        · refine z_iload (pc := 139) X.1 hl 7 rfl dX5_sweep_139 ?_
          refine z_istore (pc := 141) (i := 5) X.1 [(5, .int (iO x7)), (8, .int (iO w17)), (0, .ref (ad 0)), (1, .int (iO x1)), (2, .int (iO x2)), (4, .int (iO x4)), (6, .int (iO x6)), (7, .int (iO x7))] hl rfl (by decide) rfl dX5_sweep_141 (fun ls hl => ?_)
          refine z_iload (pc := 143) X.1 hl 1 rfl dX5_sweep_143 ?_
          refine z_istore (pc := 145) (i := 6) X.1 [(6, .int (iO w17)), (5, .int (iO x7)), (8, .int (iO w17)), (0, .ref (ad 0)), (1, .int (iO x1)), (2, .int (iO x2)), (4, .int (iO x4)), (7, .int (iO x7))] hl rfl (by decide) rfl dX5_sweep_145 (fun ls hl => ?_)
          exact CJ5_sweep_147 X N (L5_sweep_60 N k) ih x1 x2 x4 x7 w17 x7 q15 h _ _ ls hW (lv_sub hl [3, 4, 5, 6, 1, 0, 7] rfl)
        · refine z_goto (pc := 136) (tgt := 147) X.1 dX5_sweep_136 (by decide) ?_
          exact CJ5_sweep_147 X N (L5_sweep_60 N k) ih x1 x2 x4 x5 x6 x7 q15 h _ _ ls hW (lv_sub hl [1, 2, 3, 4, 5, 6, 7] rfl)
      · refine z_goto (pc := 85) (tgt := 147) X.1 dX5_sweep_85 (by decide) ?_
        exact CJ5_sweep_147 X N (L5_sweep_60 N k) ih x1 x2 x4 x5 x6 x7 μ h _ _ ls hW (lv_sub hl [0, 1, 2, 3, 4, 5, 6] rfl)
theorem CJ5_sweep_24 (X : zX p s m args meth c cX5_sweep RX5 wsX5_sweep 9 D cy ad (some .int) A) (N : Nat) : ∀ (x1 : Int) (x2 : Int) (x3 : Int) (μ : mm), J5_sweep_24 N x1 x2 x3 μ = some res → ∀ (H : Heap) (locs : List Loc) (ls : Array Slot), zW D cy ad A s.heap μ H locs → lv_has ls 9 [(0, .ref (ad 0)), (1, .int (iO x1)), (2, .int (iO x2)), (3, .int (iO x3))] → W p l e (rmD 7) s m args below meth c H locs 0 0 (MQ below (zQi D cy ad A res.1 res.2) args s 0 0 A) (F0 m 24 ls []) := by
  intro x1 x2 x3 μ h H locs ls hW hl
  rw [J5_sweep_24] at h
  refine z_iload_n (pc := 24) X.1 hl 3 rfl rfl dX5_sweep_24 ?_
  obtain ⟨g3, h⟩ := z_guard h
  refine z_if_eq (pc := 25) (tgt := 34) X.1 dX5_sweep_25 (by decide) g3 h (fun c23 h => ?_) (fun c23 h => ?_)
  · refine z_aload_n (pc := 34) X.1 hl 0 rfl rfl dX5_sweep_34 ?_
    refine z_iload_n (pc := 35) X.1 hl 1 rfl rfl dX5_sweep_35 ?_
    obtain ⟨q4, eq4, h⟩ := z_bind h
    refine z_callV1V (pc := 36) (n := 1) (As := [.int (iO x1)]) (rest := []) X hW hl rfl (C5_takes l N x1 μ eq4) gX5_sweep_X5_takes rfl (by decide +kernel) rfl (by decide) rfl (Nat.le_of_ble_eq_true rfl) dX5_sweep_36 (fun H locs hW => ?_)
    refine z_aload_n (pc := 39) X.1 hl 0 rfl rfl dX5_sweep_39 ?_
    refine z_get1 (pc := 40) X.1 hW rfl iX5_sweep_1 1 (by decide) rfl (by decide +kernel) dX5_sweep_40 ?_
    refine z_iconst (pc := 43) X.1 dX5_sweep_43 ?_
    obtain ⟨q5, eq5, h⟩ := z_bind h
    refine z_callSI (pc := 44) (n := 2) (As := [.ref (ad 2), .int (iO 5)]) (rest := []) X hW hl (C5_allOf l N 2 5 (by decide) q4 eq5) gX5_sweep_X5_allOf rfl (by decide +kernel) rfl (by decide) rfl (Nat.le_of_ble_eq_true rfl) dX5_sweep_44 (fun H locs hW => ?_)
    refine z_istore (pc := 47) (i := 4) X.1 [(4, .int (iO q5)), (0, .ref (ad 0)), (1, .int (iO x1)), (2, .int (iO x2)), (3, .int (iO x3))] hl rfl (by decide) rfl dX5_sweep_47 (fun ls hl => ?_)
    refine z_bipush (pc := 49) X.1 dX5_sweep_49 (by decide) ?_
    refine z_istore (pc := 51) (i := 5) X.1 [(5, .int (iO (-9))), (4, .int (iO q5)), (0, .ref (ad 0)), (1, .int (iO x1)), (2, .int (iO x2)), (3, .int (iO x3))] hl rfl (by decide) rfl dX5_sweep_51 (fun ls hl => ?_)
    refine z_ldc (pc := 53) (n := 1000000000) X.1 (by decide +kernel) dX5_sweep_53 ?_
    refine z_istore (pc := 55) (i := 6) X.1 [(6, .int (iO 1000000000)), (5, .int (iO (-9))), (4, .int (iO q5)), (0, .ref (ad 0)), (1, .int (iO x1)), (2, .int (iO x2)), (3, .int (iO x3))] hl rfl (by decide) rfl dX5_sweep_55 (fun ls hl => ?_)
    refine z_iconst (pc := 57) X.1 dX5_sweep_57 ?_
    refine z_istore (pc := 58) (i := 7) X.1 [(7, .int (iO 0)), (6, .int (iO 1000000000)), (5, .int (iO (-9))), (4, .int (iO q5)), (0, .ref (ad 0)), (1, .int (iO x1)), (2, .int (iO x2)), (3, .int (iO x3))] hl rfl (by decide) rfl dX5_sweep_58 (fun ls hl => ?_)
    exact CL5_sweep_60 X N N x1 x2 q5 (-9) 1000000000 0 q4 h _ _ ls hW (lv_sub hl [4, 5, 6, 3, 2, 1, 0] rfl)
  · refine z_aload_n (pc := 28) X.1 hl 0 rfl rfl dX5_sweep_28 ?_
    refine z_iload_n (pc := 29) X.1 hl 3 rfl rfl dX5_sweep_29 ?_
    obtain ⟨q22, eq22, h⟩ := z_bind h
    refine z_callV1I (pc := 30) (n := 1) (As := [.int (iO x3)]) (rest := []) X hW hl rfl (C5_no l N x3 μ eq22) gX5_sweep_X5_no rfl (by decide +kernel) rfl (by decide) rfl (Nat.le_of_ble_eq_true rfl) dX5_sweep_30 (fun H locs hW => ?_)
    exact z_iret (pc := 33) X hW (z_p1 h) (z_p2 h) dX5_sweep_33
end
theorem C5_sweep (l : Launch) {D : va_G} {cy : ClassId × ClassId} {ad : Nat → Nat} (N : Nat) (a0 : Int) (a1 : Int) (μ : mm) {res : (Int × mm)} (h : M5_sweep N a0 a1 μ = some res) : zI l yX5_sweep wsX5_sweep 7 D cy ad [.ref (ad 0), .int (iO a0), .int (iO a1)] μ res.1 res.2 := by
  refine zI.of RX5 rfl (by decide) rfl (Nat.le_of_ble_eq_true rfl) ?_
  intro p e s m args below meth c A X hW ls hl
  have hl : lv_has ls 9 [(0, .ref (ad 0)), (1, .int (iO a0)), (2, .int (iO a1))] := hl
  unfold M5_sweep at h
  refine z_iload_n (pc := 0) X.1 hl 1 rfl rfl dX5_sweep_0 ?_
  refine z_iconst (pc := 1) X.1 dX5_sweep_1 ?_
  refine z_bipush (pc := 2) X.1 dX5_sweep_2 (by decide) ?_
  obtain ⟨q1, eq1, h⟩ := z_bind h
  refine z_callSI (pc := 4) (n := 3) (As := [.int (iO a0), .int (iO 1), .int (iO 30)]) (rest := []) X hW hl (C5_wrongBy l N a0 1 30 μ eq1) gX5_sweep_X5_wrongBy rfl (by decide +kernel) rfl (by decide) rfl (Nat.le_of_ble_eq_true rfl) dX5_sweep_4 (fun H locs hW => ?_)
  refine z_istore_n (pc := 7) (i := 3) X.1 [(3, .int (iO q1)), (0, .ref (ad 0)), (1, .int (iO a0)), (2, .int (iO a1))] hl rfl rfl (by decide) rfl dX5_sweep_7 (fun ls hl => ?_)
  refine z_iload_n (pc := 8) X.1 hl 0 rfl rfl dX5_sweep_8 ?_
  obtain ⟨g2, h⟩ := z_guard h
  refine z_if_ne (pc := 9) (tgt := 24) X.1 dX5_sweep_9 (by decide) g2 h (fun c27 h => ?_) (fun c27 h => ?_)
  · exact CJ5_sweep_24 X N a0 a1 q1 μ h _ _ ls hW (lv_sub hl [1, 2, 3, 0] rfl)
  · refine z_iload_n (pc := 12) X.1 hl 3 rfl rfl dX5_sweep_12 ?_
    refine z_iconst (pc := 13) X.1 dX5_sweep_13 ?_
    refine z_iconst (pc := 14) X.1 dX5_sweep_14 ?_
    obtain ⟨q24, eq24, h⟩ := z_bind h
    refine z_callSI (pc := 15) (n := 3) (As := [.int (iO a1), .int (iO 0), .int (iO 1)]) (rest := []) X hW hl (C5_isIn l N a1 0 1 μ eq24) gX5_sweep_X5_isIn rfl (by decide +kernel) rfl (by decide) rfl (Nat.le_of_ble_eq_true rfl) dX5_sweep_15 (fun H locs hW => ?_)
    obtain ⟨g25, h⟩ := z_guard h
    refine z_if_ne (pc := 18) (tgt := 24) X.1 dX5_sweep_18 (by decide) g25 h (fun c26 h => ?_) (fun c26 h => ?_)
    · exact CJ5_sweep_24 X N a0 a1 q1 μ h _ _ ls hW (lv_sub hl [1, 2, 3, 0] rfl)
    · refine z_bipush (pc := 21) X.1 dX5_sweep_21 (by decide) ?_
      refine z_istore_n (pc := 23) (i := 3) X.1 [(3, .int (iO (-2))), (0, .ref (ad 0)), (1, .int (iO a0)), (2, .int (iO a1))] hl rfl rfl (by decide) rfl dX5_sweep_23 (fun ls hl => ?_)
      exact CJ5_sweep_24 X N a0 a1 (-2) μ h _ _ ls hW (lv_sub hl [1, 2, 3, 0] rfl)
-- X5_grain
theorem iX5_grain_1 : ∀ w ∈ wsX50, w ∈ wsX5_grain := by decide +kernel
section
variable {p : Program} {l : Launch} {e : Env} {s : State} {m : MethodId} {args : Array Value} {below : List Frame} {meth : Method} {c : Code} {D : va_G} {cy : ClassId × ClassId} {ad : Nat → Nat} {A : Nat → Prop} {res : (Int × mm)}
theorem CJ5_grain_116 (X : zX p s m args meth c cX5_grain RX5 wsX5_grain 7 D cy ad (some .int) A) (N : Nat) (rec42 : Int → Int → Int → Int → mm → Option (Int × mm)) (hrec42 : ∀ (x1 : Int) (x3 : Int) (x4 : Int) (x5 : Int) (μ : mm), rec42 x1 x3 x4 x5 μ = some res → ∀ (H : Heap) (locs : List Loc) (ls : Array Slot), zW D cy ad A s.heap μ H locs → lv_has ls 7 [(0, .ref (ad 0)), (1, .int (iO x1)), (3, .int (iO x3)), (4, .int (iO x4)), (5, .int (iO x5))] → W p l e (rmD 7) s m args below meth c H locs 0 0 (MQ below (zQi D cy ad A res.1 res.2) args s 0 0 A) (F0 m 42 ls [])) : ∀ (x1 : Int) (x3 : Int) (x4 : Int) (x5 : Int) (μ : mm), J5_grain_116 N rec42 x1 x3 x4 x5 μ = some res → ∀ (H : Heap) (locs : List Loc) (ls : Array Slot), zW D cy ad A s.heap μ H locs → lv_has ls 7 [(0, .ref (ad 0)), (1, .int (iO x1)), (3, .int (iO x3)), (4, .int (iO x4)), (5, .int (iO x5))] → W p l e (rmD 7) s m args below meth c H locs 0 0 (MQ below (zQi D cy ad A res.1 res.2) args s 0 0 A) (F0 m 116 ls []) := by
  intro x1 x3 x4 x5 μ h H locs ls hW hl
  rw [J5_grain_116] at h
  refine z_iinc (pc := 116) (i := 5) X.1 [(5, .int (iO (x5 + 1))), (0, .ref (ad 0)), (1, .int (iO x1)), (3, .int (iO x3)), (4, .int (iO x4))] hl 4 rfl rfl (by decide) rfl dX5_grain_116 (fun ls hl => ?_)
  refine z_goto (pc := 119) (tgt := 42) X.1 dX5_grain_119 (by decide) ?_
  exact hrec42 x1 x3 x4 (x5 + 1) μ h _ _ ls hW (lv_sub hl [1, 2, 3, 4, 0] rfl)
theorem CL5_grain_42 (X : zX p s m args meth c cX5_grain RX5 wsX5_grain 7 D cy ad (some .int) A) (N : Nat) : ∀ (k : Nat) (x1 : Int) (x3 : Int) (x4 : Int) (x5 : Int) (μ : mm), L5_grain_42 N k x1 x3 x4 x5 μ = some res → ∀ (H : Heap) (locs : List Loc) (ls : Array Slot), zW D cy ad A s.heap μ H locs → lv_has ls 7 [(0, .ref (ad 0)), (1, .int (iO x1)), (3, .int (iO x3)), (4, .int (iO x4)), (5, .int (iO x5))] → W p l e (rmD 7) s m args below meth c H locs 0 0 (MQ below (zQi D cy ad A res.1 res.2) args s 0 0 A) (F0 m 42 ls []) := by
  intro k
  induction k with
  | zero =>
    intro x1 x3 x4 x5 μ h H locs ls hW hl
    exact absurd h (by rw [L5_grain_42]; exact fun z => by cases z)
  | succ k ih =>
    intro x1 x3 x4 x5 μ h H locs ls hW hl
    rw [L5_grain_42] at h
    refine z_iload (pc := 42) X.1 hl 4 rfl dX5_grain_42 ?_
    refine z_aload_n (pc := 44) X.1 hl 0 rfl rfl dX5_grain_44 ?_
    refine z_get1 (pc := 45) X.1 hW rfl iX5_grain_1 0 (by decide) rfl (by decide +kernel) dX5_grain_45 ?_
    refine z_iconst (pc := 48) X.1 dX5_grain_48 ?_
    refine z_iald (pc := 49) X.1 hW rfl ⟨(by decide), (by decide)⟩ dX5_grain_49 ?_
    obtain ⟨g5, h⟩ := z_guard h
    refine z_icmp_ge (pc := 50) (tgt := 122) X.1 dX5_grain_50 (by decide) ⟨g5.1, g5.2⟩ h (fun c14 h => ?_) (fun c14 h => ?_)
    · refine z_iload (pc := 122) X.1 hl 3 rfl dX5_grain_122 ?_
      exact z_iret (pc := 124) X hW (z_p1 h) (z_p2 h) dX5_grain_124
    · refine z_aload_n (pc := 53) X.1 hl 0 rfl rfl dX5_grain_53 ?_
      refine z_get1 (pc := 54) X.1 hW rfl iX5_grain_1 0 (by decide) rfl (by decide +kernel) dX5_grain_54 ?_
      refine z_aload_n (pc := 57) X.1 hl 0 rfl rfl dX5_grain_57 ?_
      refine z_get1 (pc := 58) X.1 hW rfl iX5_grain_1 1 (by decide) rfl (by decide +kernel) dX5_grain_58 ?_
      obtain ⟨q6, eq6, h⟩ := z_bind h
      refine z_callSV (pc := 61) (n := 2) (As := [.ref (ad 1), .ref (ad 2)]) (rest := []) X hW hl (C5_copies l N 1 2 (by decide) (by decide) μ eq6) gX5_grain_X5_copies rfl (by decide +kernel) rfl (by decide) rfl (Nat.le_of_ble_eq_true rfl) dX5_grain_61 (fun H locs hW => ?_)
      refine z_aload_n (pc := 64) X.1 hl 0 rfl rfl dX5_grain_64 ?_
      refine z_get1 (pc := 65) X.1 hW rfl iX5_grain_1 1 (by decide) rfl (by decide +kernel) dX5_grain_65 ?_
      refine z_iload (pc := 68) X.1 hl 4 rfl dX5_grain_68 ?_
      refine z_iconst (pc := 70) X.1 dX5_grain_70 ?_
      refine z_callSI (pc := 71) (n := 2) (As := [.int (iO x5), .int (iO 2)]) (rest := [.ref (ad 2)]) X hW hl (C5_of l N x5 2 q6) gX5_grain_X5_of rfl (by decide +kernel) rfl (by decide) rfl (Nat.le_of_ble_eq_true rfl) dX5_grain_71 (fun H locs hW => ?_)
      refine z_bipush (pc := 74) X.1 dX5_grain_74 (by decide) ?_
      refine z_aload_n (pc := 76) X.1 hl 0 rfl rfl dX5_grain_76 ?_
      refine z_get1 (pc := 77) X.1 hW rfl iX5_grain_1 1 (by decide) rfl (by decide +kernel) dX5_grain_77 ?_
      refine z_iload (pc := 80) X.1 hl 4 rfl dX5_grain_80 ?_
      refine z_iconst (pc := 82) X.1 dX5_grain_82 ?_
      refine z_callSI (pc := 83) (n := 2) (As := [.int (iO x5), .int (iO 2)]) (rest := [.ref (ad 2), .int (iO 99), .int (iO ((4 + (6 * x5)) + 2)), .ref (ad 2)]) X hW hl (C5_of l N x5 2 q6) gX5_grain_X5_of rfl (by decide +kernel) rfl (by decide) rfl (Nat.le_of_ble_eq_true rfl) dX5_grain_83 (fun H locs hW => ?_)
      obtain ⟨g7, h⟩ := z_guard h
      refine z_iald (pc := 86) X.1 hW rfl ⟨g7.1, g7.2⟩ dX5_grain_86 ?_
      refine z_iconst (pc := 87) X.1 dX5_grain_87 ?_
      refine z_iadd (pc := 88) X.1 dX5_grain_88 ?_
      obtain ⟨q8, eq8, h⟩ := z_bind h
      refine z_callSI (pc := 89) (n := 2) (As := [.int (iO 99), .int (iO ((q6 2 (((4 + (6 * x5)) + 2)).toNat) + 1))]) (rest := [.int (iO ((4 + (6 * x5)) + 2)), .ref (ad 2)]) X hW hl (C5_least l N 99 ((q6 2 (((4 + (6 * x5)) + 2)).toNat) + 1) q6 eq8) gX5_grain_X5_least rfl (by decide +kernel) rfl (by decide) rfl (Nat.le_of_ble_eq_true rfl) dX5_grain_89 (fun H locs hW => ?_)
      obtain ⟨g9, h⟩ := z_guard h
      obtain ⟨μ10, eμ10, h⟩ := z_bnd h
      refine z_iast (pc := 92) X.1 hW rfl ⟨g9.1, g9.2⟩ dX5_grain_92 (fun H locs hW => ?_)
      replace hW : zW D cy ad A s.heap μ10 H locs := by rw [eμ10]; exact hW
      refine z_aload_n (pc := 93) X.1 hl 0 rfl rfl dX5_grain_93 ?_
      refine z_iload_n (pc := 94) X.1 hl 1 rfl rfl dX5_grain_94 ?_
      obtain ⟨q11, eq11, h⟩ := z_bind h
      refine z_callV1I (pc := 95) (n := 1) (As := [.int (iO x1)]) (rest := []) X hW hl rfl (C5_throughBehind l N x1 μ10 eq11) gX5_grain_X5_throughBehind rfl (by decide +kernel) rfl (by decide) rfl (Nat.le_of_ble_eq_true rfl) dX5_grain_95 (fun H locs hW => ?_)
      refine z_istore (pc := 98) (i := 6) X.1 [(6, .int (iO q11.1)), (0, .ref (ad 0)), (1, .int (iO x1)), (3, .int (iO x3)), (4, .int (iO x4)), (5, .int (iO x5))] hl rfl (by decide) rfl dX5_grain_98 (fun ls hl => ?_)
      refine z_iload (pc := 100) X.1 hl 0 rfl dX5_grain_100 ?_
      refine z_iload_n (pc := 102) X.1 hl 3 rfl rfl dX5_grain_102 ?_
      obtain ⟨g12, h⟩ := z_guard h
      refine z_icmp_gt (pc := 103) (tgt := 109) X.1 dX5_grain_103 (by decide) ⟨g12.1, g12.2⟩ h (fun c13 h => ?_) (fun c13 h => ?_)
      · refine z_iload (pc := 109) X.1 hl 5 rfl dX5_grain_109 ?_
        refine z_istore (pc := 111) (i := 4) X.1 [(4, .int (iO x5)), (6, .int (iO q11.1)), (0, .ref (ad 0)), (1, .int (iO x1)), (3, .int (iO x3)), (5, .int (iO x5))] hl rfl (by decide) rfl dX5_grain_111 (fun ls hl => ?_)
        refine z_iload (pc := 113) X.1 hl 1 rfl dX5_grain_113 ?_
        refine z_istore_n (pc := 115) (i := 3) X.1 [(3, .int (iO q11.1)), (4, .int (iO x5)), (6, .int (iO q11.1)), (0, .ref (ad 0)), (1, .int (iO x1)), (5, .int (iO x5))] hl rfl rfl (by decide) rfl dX5_grain_115 (fun ls hl => ?_)
        exact CJ5_grain_116 X N (L5_grain_42 N k) ih x1 q11.1 x5 x5 q11.2 h _ _ ls hW (lv_sub hl [3, 4, 0, 1, 5] rfl)
      · refine z_goto (pc := 106) (tgt := 116) X.1 dX5_grain_106 (by decide) ?_
        exact CJ5_grain_116 X N (L5_grain_42 N k) ih x1 x3 x4 x5 q11.2 h _ _ ls hW (lv_sub hl [1, 2, 3, 4, 5] rfl)
end
theorem C5_grain (l : Launch) {D : va_G} {cy : ClassId × ClassId} {ad : Nat → Nat} (N : Nat) (a0 : Int) (μ : mm) {res : (Int × mm)} (h : M5_grain N a0 μ = some res) : zI l yX5_grain wsX5_grain 7 D cy ad [.ref (ad 0), .int (iO a0)] μ res.1 res.2 := by
  refine zI.of RX5 rfl (by decide) rfl (Nat.le_of_ble_eq_true rfl) ?_
  intro p e s m args below meth c A X hW ls hl
  have hl : lv_has ls 7 [(0, .ref (ad 0)), (1, .int (iO a0))] := hl
  unfold M5_grain at h
  refine z_iload_n (pc := 0) X.1 hl 1 rfl rfl dX5_grain_0 ?_
  refine z_iconst (pc := 1) X.1 dX5_grain_1 ?_
  refine z_bipush (pc := 2) X.1 dX5_grain_2 (by decide) ?_
  obtain ⟨q1, eq1, h⟩ := z_bind h
  refine z_callSI (pc := 4) (n := 3) (As := [.int (iO a0), .int (iO 1), .int (iO 30)]) (rest := []) X hW hl (C5_wrongBy l N a0 1 30 μ eq1) gX5_grain_X5_wrongBy rfl (by decide +kernel) rfl (by decide) rfl (Nat.le_of_ble_eq_true rfl) dX5_grain_4 (fun H locs hW => ?_)
  refine z_istore_n (pc := 7) (i := 2) X.1 [(2, .int (iO q1)), (0, .ref (ad 0)), (1, .int (iO a0))] hl rfl rfl (by decide) rfl dX5_grain_7 (fun ls hl => ?_)
  refine z_iload_n (pc := 8) X.1 hl 0 rfl rfl dX5_grain_8 ?_
  obtain ⟨g2, h⟩ := z_guard h
  refine z_if_eq (pc := 9) (tgt := 18) X.1 dX5_grain_9 (by decide) g2 h (fun c16 h => ?_) (fun c16 h => ?_)
  · refine z_aload_n (pc := 18) X.1 hl 1 rfl rfl dX5_grain_18 ?_
    refine z_get1 (pc := 19) X.1 hW rfl iX5_grain_1 0 (by decide) rfl (by decide +kernel) dX5_grain_19 ?_
    refine z_aload_n (pc := 22) X.1 hl 1 rfl rfl dX5_grain_22 ?_
    refine z_get1 (pc := 23) X.1 hW rfl iX5_grain_1 1 (by decide) rfl (by decide +kernel) dX5_grain_23 ?_
    obtain ⟨q3, eq3, h⟩ := z_bind h
    refine z_callSV (pc := 26) (n := 2) (As := [.ref (ad 1), .ref (ad 2)]) (rest := []) X hW hl (C5_copies l N 1 2 (by decide) (by decide) μ eq3) gX5_grain_X5_copies rfl (by decide +kernel) rfl (by decide) rfl (Nat.le_of_ble_eq_true rfl) dX5_grain_26 (fun H locs hW => ?_)
    refine z_aload_n (pc := 29) X.1 hl 1 rfl rfl dX5_grain_29 ?_
    refine z_iload_n (pc := 30) X.1 hl 2 rfl rfl dX5_grain_30 ?_
    obtain ⟨q4, eq4, h⟩ := z_bind h
    refine z_callV1I (pc := 31) (n := 1) (As := [.int (iO a0)]) (rest := []) X hW hl rfl (C5_throughBehind l N a0 q3 eq4) gX5_grain_X5_throughBehind rfl (by decide +kernel) rfl (by decide) rfl (Nat.le_of_ble_eq_true rfl) dX5_grain_31 (fun H locs hW => ?_)
    refine z_istore_n (pc := 34) (i := 3) X.1 [(3, .int (iO q4.1)), (2, .int (iO q1)), (0, .ref (ad 0)), (1, .int (iO a0))] hl rfl rfl (by decide) rfl dX5_grain_34 (fun ls hl => ?_)
    refine z_bipush (pc := 35) X.1 dX5_grain_35 (by decide) ?_
    refine z_istore (pc := 37) (i := 4) X.1 [(4, .int (iO (-9))), (3, .int (iO q4.1)), (2, .int (iO q1)), (0, .ref (ad 0)), (1, .int (iO a0))] hl rfl (by decide) rfl dX5_grain_37 (fun ls hl => ?_)
    refine z_iconst (pc := 39) X.1 dX5_grain_39 ?_
    refine z_istore (pc := 40) (i := 5) X.1 [(5, .int (iO 0)), (4, .int (iO (-9))), (3, .int (iO q4.1)), (2, .int (iO q1)), (0, .ref (ad 0)), (1, .int (iO a0))] hl rfl (by decide) rfl dX5_grain_40 (fun ls hl => ?_)
    exact CL5_grain_42 X N N a0 q4.1 (-9) 0 q4.2 h _ _ ls hW (lv_sub hl [4, 5, 2, 1, 0] rfl)
  · refine z_aload_n (pc := 12) X.1 hl 1 rfl rfl dX5_grain_12 ?_
    refine z_iload_n (pc := 13) X.1 hl 0 rfl rfl dX5_grain_13 ?_
    obtain ⟨q15, eq15, h⟩ := z_bind h
    refine z_callV1I (pc := 14) (n := 1) (As := [.int (iO q1)]) (rest := []) X hW hl rfl (C5_no l N q1 μ eq15) gX5_grain_X5_no rfl (by decide +kernel) rfl (by decide) rfl (Nat.le_of_ble_eq_true rfl) dX5_grain_14 (fun H locs hW => ?_)
    exact z_iret (pc := 17) X hW (z_p1 h) (z_p2 h) dX5_grain_17
-- X5_shares
theorem iX5_shares_1 : ∀ w ∈ wsX50, w ∈ wsX5_shares := by decide +kernel
theorem C5_shares (l : Launch) {D : va_G} {cy : ClassId × ClassId} {ad : Nat → Nat} (N : Nat) (a0 : Int) (μ : mm) {res : (Int × mm)} (h : M5_shares N a0 μ = some res) : zI l yX5_shares wsX5_shares 1 D cy ad [.ref (ad 0), .int (iO a0)] μ res.1 res.2 := by
  refine zI.of RX5 rfl (by decide) rfl (Nat.le_of_ble_eq_true rfl) ?_
  intro p e s m args below meth c A X hW ls hl
  have hl : lv_has ls 3 [(0, .ref (ad 0)), (1, .int (iO a0))] := hl
  unfold M5_shares at h
  refine z_iload_n (pc := 0) X.1 hl 1 rfl rfl dX5_shares_0 ?_
  refine z_iconst (pc := 1) X.1 dX5_shares_1 ?_
  refine z_iconst (pc := 2) X.1 dX5_shares_2 ?_
  obtain ⟨q1, eq1, h⟩ := z_bind h
  refine z_callSI (pc := 3) (n := 3) (As := [.int (iO a0), .int (iO 0), .int (iO 1)]) (rest := []) X hW hl (C5_isIn l N a0 0 1 μ eq1) gX5_shares_X5_isIn rfl (by decide +kernel) rfl (by decide) rfl (Nat.le_of_ble_eq_true rfl) dX5_shares_3 (fun H locs hW => ?_)
  obtain ⟨g2, h⟩ := z_guard h
  refine z_if_ne (pc := 6) (tgt := 16) X.1 dX5_shares_6 (by decide) g2 h (fun c13 h => ?_) (fun c13 h => ?_)
  · refine z_aload_n (pc := 16) X.1 hl 0 rfl rfl dX5_shares_16 ?_
    refine z_get1 (pc := 17) X.1 hW rfl iX5_shares_1 0 (by decide) rfl (by decide +kernel) dX5_shares_17 ?_
    refine z_iconst (pc := 20) X.1 dX5_shares_20 ?_
    refine z_iald (pc := 21) X.1 hW rfl ⟨(by decide), (by decide)⟩ dX5_shares_21 ?_
    obtain ⟨w3, ew3, h⟩ := z_bnd h
    refine z_istore_n (pc := 22) (i := 2) X.1 [(2, .int (iO w3)), (0, .ref (ad 0)), (1, .int (iO a0))] hl ew3 rfl (by decide) rfl dX5_shares_22 (fun ls hl => ?_)
    refine z_iload_n (pc := 23) X.1 hl 0 rfl rfl dX5_shares_23 ?_
    obtain ⟨g4, h⟩ := z_guard h
    refine z_if_ne (pc := 24) (tgt := 44) X.1 dX5_shares_24 (by decide) g4 h (fun c11 h => ?_) (fun c11 h => ?_)
    · refine z_iload_n (pc := 44) X.1 hl 2 rfl rfl dX5_shares_44 ?_
      obtain ⟨g5, h⟩ := z_guard h
      refine z_if_ne (pc := 45) (tgt := 59) X.1 dX5_shares_45 (by decide) g5 h (fun c8 h => ?_) (fun c8 h => ?_)
      · refine z_aload_n (pc := 59) X.1 hl 1 rfl rfl dX5_shares_59 ?_
        refine z_get1 (pc := 60) X.1 hW rfl iX5_shares_1 0 (by decide) rfl (by decide +kernel) dX5_shares_60 ?_
        refine z_iconst (pc := 63) X.1 dX5_shares_63 ?_
        refine z_iald (pc := 64) X.1 hW rfl ⟨(by decide), (by decide)⟩ dX5_shares_64 ?_
        refine z_iload_n (pc := 65) X.1 hl 0 rfl rfl dX5_shares_65 ?_
        obtain ⟨g6, h⟩ := z_guard h
        refine z_irem (pc := 66) X.1 dX5_shares_66 ⟨g6.1, g6.2.1, g6.2.2.1, g6.2.2.2⟩ ?_
        exact z_iret (pc := 67) X hW (z_p1 h) (z_p2 h) dX5_shares_67
      · refine z_aload_n (pc := 48) X.1 hl 1 rfl rfl dX5_shares_48 ?_
        refine z_get1 (pc := 49) X.1 hW rfl iX5_shares_1 0 (by decide) rfl (by decide +kernel) dX5_shares_49 ?_
        refine z_iconst (pc := 52) X.1 dX5_shares_52 ?_
        refine z_iald (pc := 53) X.1 hW rfl ⟨(by decide), (by decide)⟩ dX5_shares_53 ?_
        refine z_iload_n (pc := 54) X.1 hl 0 rfl rfl dX5_shares_54 ?_
        obtain ⟨g7, h⟩ := z_guard h
        refine z_idiv (pc := 55) X.1 dX5_shares_55 ⟨g7.1, g7.2.1, g7.2.2.1, g7.2.2.2⟩ ?_
        refine z_goto (pc := 56) (tgt := 67) X.1 dX5_shares_56 (by decide) ?_
        exact z_iret (pc := 67) X hW (z_p1 h) (z_p2 h) dX5_shares_67
    · refine z_iload_n (pc := 27) X.1 hl 2 rfl rfl dX5_shares_27 ?_
      obtain ⟨g9, h⟩ := z_guard h
      refine z_if_ne (pc := 28) (tgt := 35) X.1 dX5_shares_28 (by decide) g9 h (fun c10 h => ?_) (fun c10 h => ?_)
      · refine z_aload_n (pc := 35) X.1 hl 1 rfl rfl dX5_shares_35 ?_
        refine z_get1 (pc := 36) X.1 hW rfl iX5_shares_1 0 (by decide) rfl (by decide +kernel) dX5_shares_36 ?_
        refine z_iconst (pc := 39) X.1 dX5_shares_39 ?_
        refine z_iald (pc := 40) X.1 hW rfl ⟨(by decide), (by decide)⟩ dX5_shares_40 ?_
        refine z_goto (pc := 41) (tgt := 67) X.1 dX5_shares_41 (by decide) ?_
        exact z_iret (pc := 67) X hW (z_p1 h) (z_p2 h) dX5_shares_67
      · refine z_iconst (pc := 31) X.1 dX5_shares_31 ?_
        refine z_goto (pc := 32) (tgt := 67) X.1 dX5_shares_32 (by decide) ?_
        exact z_iret (pc := 67) X hW (z_p1 h) (z_p2 h) dX5_shares_67
  · refine z_aload_n (pc := 9) X.1 hl 0 rfl rfl dX5_shares_9 ?_
    refine z_bipush (pc := 10) X.1 dX5_shares_10 (by decide) ?_
    obtain ⟨q12, eq12, h⟩ := z_bind h
    refine z_callV1I (pc := 12) (n := 1) (As := [.int (iO (-2))]) (rest := []) X hW hl rfl (C5_no l N (-2) μ eq12) gX5_shares_X5_no rfl (by decide +kernel) rfl (by decide) rfl (Nat.le_of_ble_eq_true rfl) dX5_shares_12 (fun H locs hW => ?_)
    exact z_iret (pc := 15) X hW (z_p1 h) (z_p2 h) dX5_shares_15
-- X5_richest
theorem iX5_richest_1 : ∀ w ∈ wsX50, w ∈ wsX5_richest := by decide +kernel
section
variable {p : Program} {l : Launch} {e : Env} {s : State} {m : MethodId} {args : Array Value} {below : List Frame} {meth : Method} {c : Code} {D : va_G} {cy : ClassId × ClassId} {ad : Nat → Nat} {A : Nat → Prop} {res : Int} {μ0 : mm}
theorem CJ5_richest_44 (X : zX p s m args meth c cX5_richest RX5 wsX5_richest 3 D cy ad (some .int) A) (N : Nat) (rec5 : Int → Int → mm → Option Int) (hrec5 : ∀ (x1 : Int) (x2 : Int) (μ : mm) (_ : μ = μ0), rec5 x1 x2 μ = some res → ∀ (H : Heap) (locs : List Loc) (ls : Array Slot), zW D cy ad A s.heap μ H locs → lv_has ls 3 [(0, .ref (ad 0)), (1, .int (iO x1)), (2, .int (iO x2))] → W p l e (rmD 1) s m args below meth c H locs 0 0 (MQ below (zQi D cy ad A res μ0) args s 0 0 A) (F0 m 5 ls [])) : ∀ (x1 : Int) (x2 : Int) (μ : mm) (_ : μ = μ0), J5_richest_44 N rec5 x1 x2 μ = some res → ∀ (H : Heap) (locs : List Loc) (ls : Array Slot), zW D cy ad A s.heap μ H locs → lv_has ls 3 [(0, .ref (ad 0)), (1, .int (iO x1)), (2, .int (iO x2))] → W p l e (rmD 1) s m args below meth c H locs 0 0 (MQ below (zQi D cy ad A res μ0) args s 0 0 A) (F0 m 44 ls []) := by
  intro x1 x2 μ em h H locs ls hW hl
  rw [J5_richest_44] at h
  refine z_iinc (pc := 44) (i := 2) X.1 [(2, .int (iO (x2 + 1))), (0, .ref (ad 0)), (1, .int (iO x1))] hl 2 rfl rfl (by decide) rfl dX5_richest_44 (fun ls hl => ?_)
  refine z_goto (pc := 47) (tgt := 5) X.1 dX5_richest_47 (by decide) ?_
  exact hrec5 x1 (x2 + 1) μ em h _ _ ls hW (lv_sub hl [1, 2, 0] rfl)
theorem CJ5_richest_42 (X : zX p s m args meth c cX5_richest RX5 wsX5_richest 3 D cy ad (some .int) A) (N : Nat) (rec5 : Int → Int → mm → Option Int) (hrec5 : ∀ (x1 : Int) (x2 : Int) (μ : mm) (_ : μ = μ0), rec5 x1 x2 μ = some res → ∀ (H : Heap) (locs : List Loc) (ls : Array Slot), zW D cy ad A s.heap μ H locs → lv_has ls 3 [(0, .ref (ad 0)), (1, .int (iO x1)), (2, .int (iO x2))] → W p l e (rmD 1) s m args below meth c H locs 0 0 (MQ below (zQi D cy ad A res μ0) args s 0 0 A) (F0 m 5 ls [])) : ∀ (x2 : Int) (μ : mm) (_ : μ = μ0), J5_richest_42 N rec5 x2 μ = some res → ∀ (H : Heap) (locs : List Loc) (ls : Array Slot), zW D cy ad A s.heap μ H locs → lv_has ls 3 [(0, .ref (ad 0)), (2, .int (iO x2))] → W p l e (rmD 1) s m args below meth c H locs 0 0 (MQ below (zQi D cy ad A res μ0) args s 0 0 A) (F0 m 42 ls []) := by
  intro x2 μ em h H locs ls hW hl
  rw [J5_richest_42] at h
  refine z_iload_n (pc := 42) X.1 hl 1 rfl rfl dX5_richest_42 ?_
  refine z_istore_n (pc := 43) (i := 1) X.1 [(1, .int (iO x2)), (0, .ref (ad 0)), (2, .int (iO x2))] hl rfl rfl (by decide) rfl dX5_richest_43 (fun ls hl => ?_)
  exact CJ5_richest_44 X N rec5 hrec5 x2 x2 μ em h _ _ ls hW (lv_sub hl [1, 0, 2] rfl)
theorem CL5_richest_5 (X : zX p s m args meth c cX5_richest RX5 wsX5_richest 3 D cy ad (some .int) A) (N : Nat) : ∀ (k : Nat) (x1 : Int) (x2 : Int) (μ : mm) (_ : μ = μ0), L5_richest_5 N k x1 x2 μ = some res → ∀ (H : Heap) (locs : List Loc) (ls : Array Slot), zW D cy ad A s.heap μ H locs → lv_has ls 3 [(0, .ref (ad 0)), (1, .int (iO x1)), (2, .int (iO x2))] → W p l e (rmD 1) s m args below meth c H locs 0 0 (MQ below (zQi D cy ad A res μ0) args s 0 0 A) (F0 m 5 ls []) := by
  intro k
  induction k with
  | zero =>
    intro x1 x2 μ em h H locs ls hW hl
    exact absurd h (by rw [L5_richest_5]; exact fun z => by cases z)
  | succ k ih =>
    intro x1 x2 μ em h H locs ls hW hl
    rw [L5_richest_5] at h
    refine z_iload_n (pc := 5) X.1 hl 2 rfl rfl dX5_richest_5 ?_
    refine z_aload_n (pc := 6) X.1 hl 0 rfl rfl dX5_richest_6 ?_
    refine z_get1 (pc := 7) X.1 hW rfl iX5_richest_1 0 (by decide) rfl (by decide +kernel) dX5_richest_7 ?_
    refine z_iconst (pc := 10) X.1 dX5_richest_10 ?_
    refine z_iald (pc := 11) X.1 hW rfl ⟨(by decide), (by decide)⟩ dX5_richest_11 ?_
    obtain ⟨g1, h⟩ := z_guard h
    refine z_icmp_ge (pc := 12) (tgt := 50) X.1 dX5_richest_12 (by decide) ⟨g1.1, g1.2⟩ h (fun c8 h => ?_) (fun c8 h => ?_)
    · refine z_iload_n (pc := 50) X.1 hl 1 rfl rfl dX5_richest_50 ?_
      exact z_iret (pc := 51) X hW (Option.some.inj h) em dX5_richest_51
    · refine z_iload_n (pc := 15) X.1 hl 1 rfl rfl dX5_richest_15 ?_
      obtain ⟨g2, h⟩ := z_guard h
      refine z_if_lt (pc := 16) (tgt := 42) X.1 dX5_richest_16 (by decide) g2 h (fun c7 h => ?_) (fun c7 h => ?_)
      · exact CJ5_richest_42 X N (L5_richest_5 N k) ih x2 μ em h _ _ ls hW (lv_sub hl [0, 2] rfl)
      · refine z_aload_n (pc := 19) X.1 hl 0 rfl rfl dX5_richest_19 ?_
        refine z_get1 (pc := 20) X.1 hW rfl iX5_richest_1 0 (by decide) rfl (by decide +kernel) dX5_richest_20 ?_
        refine z_iload_n (pc := 23) X.1 hl 2 rfl rfl dX5_richest_23 ?_
        refine z_iconst (pc := 24) X.1 dX5_richest_24 ?_
        refine z_callSI (pc := 25) (n := 2) (As := [.int (iO x2), .int (iO 2)]) (rest := [.ref (ad 1)]) X hW hl (C5_of l N x2 2 μ) gX5_richest_X5_of rfl (by decide +kernel) rfl (by decide) rfl (Nat.le_of_ble_eq_true rfl) dX5_richest_25 (fun H locs hW => ?_)
        obtain ⟨g3, h⟩ := z_guard h
        refine z_iald (pc := 28) X.1 hW rfl ⟨g3.1, g3.2⟩ dX5_richest_28 ?_
        refine z_aload_n (pc := 29) X.1 hl 0 rfl rfl dX5_richest_29 ?_
        refine z_get1 (pc := 30) X.1 hW rfl iX5_richest_1 0 (by decide) rfl (by decide +kernel) dX5_richest_30 ?_
        refine z_iload_n (pc := 33) X.1 hl 1 rfl rfl dX5_richest_33 ?_
        refine z_iconst (pc := 34) X.1 dX5_richest_34 ?_
        refine z_callSI (pc := 35) (n := 2) (As := [.int (iO x1), .int (iO 2)]) (rest := [.ref (ad 1), .int (iO (μ 1 (((4 + (6 * x2)) + 2)).toNat))]) X hW hl (C5_of l N x1 2 μ) gX5_richest_X5_of rfl (by decide +kernel) rfl (by decide) rfl (Nat.le_of_ble_eq_true rfl) dX5_richest_35 (fun H locs hW => ?_)
        obtain ⟨g4, h⟩ := z_guard h
        refine z_iald (pc := 38) X.1 hW rfl ⟨g4.1, g4.2⟩ dX5_richest_38 ?_
        obtain ⟨g5, h⟩ := z_guard h
        refine z_icmp_le (pc := 39) (tgt := 44) X.1 dX5_richest_39 (by decide) ⟨g5.1, g5.2⟩ h (fun c6 h => ?_) (fun c6 h => ?_)
        · exact CJ5_richest_44 X N (L5_richest_5 N k) ih x1 x2 μ em h _ _ ls hW (lv_sub hl [0, 1, 2] rfl)
        · exact CJ5_richest_42 X N (L5_richest_5 N k) ih x2 μ em h _ _ ls hW (lv_sub hl [0, 2] rfl)
end
theorem C5_richest (l : Launch) {D : va_G} {cy : ClassId × ClassId} {ad : Nat → Nat} (N : Nat)  (μ0 : mm) {res : Int} (h : M5_richest N μ0 = some res) : zI l yX5_richest wsX5_richest 1 D cy ad [.ref (ad 0)] μ0 res μ0 := by
  refine zI.of RX5 rfl (by decide) rfl (Nat.le_of_ble_eq_true rfl) ?_
  intro p e s m args below meth c A X hW ls hl
  have hl : lv_has ls 3 [(0, .ref (ad 0))] := hl
  unfold M5_richest at h
  refine z_bipush (pc := 0) X.1 dX5_richest_0 (by decide) ?_
  refine z_istore_n (pc := 2) (i := 1) X.1 [(1, .int (iO (-9))), (0, .ref (ad 0))] hl rfl rfl (by decide) rfl dX5_richest_2 (fun ls hl => ?_)
  refine z_iconst (pc := 3) X.1 dX5_richest_3 ?_
  refine z_istore_n (pc := 4) (i := 2) X.1 [(2, .int (iO 0)), (1, .int (iO (-9))), (0, .ref (ad 0))] hl rfl rfl (by decide) rfl dX5_richest_4 (fun ls hl => ?_)
  exact CL5_richest_5 X N N (-9) 0 μ0 rfl h _ _ ls hW (lv_sub hl [2, 1, 0] rfl)
-- X5_trusted
theorem iX5_trusted_1 : ∀ w ∈ wsX50, w ∈ wsX5_trusted := by decide +kernel
theorem C5_trusted (l : Launch) {D : va_G} {cy : ClassId × ClassId} {ad : Nat → Nat} (N : Nat) (a0 : Int) (μ : mm) {res : (Int × mm)} (h : M5_trusted N a0 μ = some res) : zI l yX5_trusted wsX5_trusted 2 D cy ad [.ref (ad 0), .int (iO a0)] μ res.1 res.2 := by
  refine zI.of RX5 rfl (by decide) rfl (Nat.le_of_ble_eq_true rfl) ?_
  intro p e s m args below meth c A X hW ls hl
  have hl : lv_has ls 2 [(0, .ref (ad 0)), (1, .int (iO a0))] := hl
  unfold M5_trusted at h
  refine z_aload_n (pc := 0) X.1 hl 0 rfl rfl dX5_trusted_0 ?_
  refine z_iload_n (pc := 1) X.1 hl 1 rfl rfl dX5_trusted_1 ?_
  obtain ⟨q1, eq1, h⟩ := z_bind h
  refine z_callV1I (pc := 2) (n := 1) (As := [.int (iO a0)]) (rest := []) X hW hl rfl (C5_isOne l N a0 μ eq1) gX5_trusted_X5_isOne rfl (by decide +kernel) rfl (by decide) rfl (Nat.le_of_ble_eq_true rfl) dX5_trusted_2 (fun H locs hW => ?_)
  obtain ⟨g2, h⟩ := z_guard h
  refine z_if_eq (pc := 5) (tgt := 32) X.1 dX5_trusted_5 (by decide) g2 h (fun c6 h => ?_) (fun c6 h => ?_)
  · refine z_aload_n (pc := 32) X.1 hl 0 rfl rfl dX5_trusted_32 ?_
    refine z_iconst (pc := 33) X.1 dX5_trusted_33 ?_
    obtain ⟨q3, eq3, h⟩ := z_bind h
    refine z_callV1I (pc := 34) (n := 1) (As := [.int (iO (-1))]) (rest := []) X hW hl rfl (C5_noFar l N (-1) μ eq3) gX5_trusted_X5_noFar rfl (by decide +kernel) rfl (by decide) rfl (Nat.le_of_ble_eq_true rfl) dX5_trusted_34 (fun H locs hW => ?_)
    exact z_iret (pc := 37) X hW (z_p1 h) (z_p2 h) dX5_trusted_37
  · refine z_aload_n (pc := 8) X.1 hl 0 rfl rfl dX5_trusted_8 ?_
    refine z_get1 (pc := 9) X.1 hW rfl iX5_trusted_1 0 (by decide) rfl (by decide +kernel) dX5_trusted_9 ?_
    refine z_iload_n (pc := 12) X.1 hl 1 rfl rfl dX5_trusted_12 ?_
    refine z_iconst (pc := 13) X.1 dX5_trusted_13 ?_
    refine z_callSI (pc := 14) (n := 2) (As := [.int (iO a0), .int (iO 4)]) (rest := [.ref (ad 1)]) X hW hl (C5_of l N a0 4 μ) gX5_trusted_X5_of rfl (by decide +kernel) rfl (by decide) rfl (Nat.le_of_ble_eq_true rfl) dX5_trusted_14 (fun H locs hW => ?_)
    obtain ⟨g4, h⟩ := z_guard h
    refine z_iald (pc := 17) X.1 hW rfl ⟨g4.1, g4.2⟩ dX5_trusted_17 ?_
    refine z_aload_n (pc := 18) X.1 hl 0 rfl rfl dX5_trusted_18 ?_
    refine z_get1 (pc := 19) X.1 hW rfl iX5_trusted_1 0 (by decide) rfl (by decide +kernel) dX5_trusted_19 ?_
    refine z_iload_n (pc := 22) X.1 hl 1 rfl rfl dX5_trusted_22 ?_
    refine z_iconst (pc := 23) X.1 dX5_trusted_23 ?_
    refine z_callSI (pc := 24) (n := 2) (As := [.int (iO a0), .int (iO 5)]) (rest := [.ref (ad 1), .int (iO (μ 1 (((4 + (6 * a0)) + 4)).toNat))]) X hW hl (C5_of l N a0 5 μ) gX5_trusted_X5_of rfl (by decide +kernel) rfl (by decide) rfl (Nat.le_of_ble_eq_true rfl) dX5_trusted_24 (fun H locs hW => ?_)
    obtain ⟨g5, h⟩ := z_guard h
    refine z_iald (pc := 27) X.1 hW rfl ⟨g5.1, g5.2⟩ dX5_trusted_27 ?_
    refine z_isub (pc := 28) X.1 dX5_trusted_28 ?_
    refine z_goto (pc := 29) (tgt := 37) X.1 dX5_trusted_29 (by decide) ?_
    exact z_iret (pc := 37) X hW (z_p1 h) (z_p2 h) dX5_trusted_37
-- X5_worth
theorem iX5_worth_1 : ∀ w ∈ wsX50, w ∈ wsX5_worth := by decide +kernel
theorem C5_worth (l : Launch) {D : va_G} {cy : ClassId × ClassId} {ad : Nat → Nat} (N : Nat)  (μ0 : mm) {res : Int} (h : M5_worth N μ0 = some res) : zI l yX5_worth wsX5_worth 2 D cy ad [.ref (ad 0)] μ0 res μ0 := by
  refine zI.of RX5 rfl (by decide) rfl (Nat.le_of_ble_eq_true rfl) ?_
  intro p e s m args below meth c A X hW ls hl
  have hl : lv_has ls 1 [(0, .ref (ad 0))] := hl
  unfold M5_worth at h
  refine z_aload_n (pc := 0) X.1 hl 0 rfl rfl dX5_worth_0 ?_
  refine z_get1 (pc := 1) X.1 hW rfl iX5_worth_1 0 (by decide) rfl (by decide +kernel) dX5_worth_1 ?_
  refine z_iconst (pc := 4) X.1 dX5_worth_4 ?_
  obtain ⟨q1, eq1, h⟩ := z_bind h
  refine z_callSI (pc := 5) (n := 2) (As := [.ref (ad 1), .int (iO 4)]) (rest := []) X hW hl (C5_allOf l N 1 4 (by decide) μ0 eq1) gX5_worth_X5_allOf rfl (by decide +kernel) rfl (by decide) rfl (Nat.le_of_ble_eq_true rfl) dX5_worth_5 (fun H locs hW => ?_)
  refine z_aload_n (pc := 8) X.1 hl 0 rfl rfl dX5_worth_8 ?_
  refine z_get1 (pc := 9) X.1 hW rfl iX5_worth_1 0 (by decide) rfl (by decide +kernel) dX5_worth_9 ?_
  refine z_iconst (pc := 12) X.1 dX5_worth_12 ?_
  obtain ⟨q2, eq2, h⟩ := z_bind h
  refine z_callSI (pc := 13) (n := 2) (As := [.ref (ad 1), .int (iO 5)]) (rest := [.int (iO q1)]) X hW hl (C5_allOf l N 1 5 (by decide) μ0 eq2) gX5_worth_X5_allOf rfl (by decide +kernel) rfl (by decide) rfl (Nat.le_of_ble_eq_true rfl) dX5_worth_13 (fun H locs hW => ?_)
  refine z_isub (pc := 16) X.1 dX5_worth_16 ?_
  exact z_iret (pc := 17) X hW (Option.some.inj h) rfl dX5_worth_17
-- X5_ownBy
theorem iX5_ownBy_1 : ∀ w ∈ wsX50, w ∈ wsX5_ownBy := by decide +kernel
section
variable {p : Program} {l : Launch} {e : Env} {s : State} {m : MethodId} {args : Array Value} {below : List Frame} {meth : Method} {c : Code} {D : va_G} {cy : ClassId × ClassId} {ad : Nat → Nat} {A : Nat → Prop} {res : (Int × mm)}
theorem CJ5_ownBy_43 (X : zX p s m args meth c cX5_ownBy RX5 wsX5_ownBy 9 D cy ad (some .int) A) (N : Nat) : ∀ (x1 : Int) (x2 : Int) (x6 : Int) (x7 : Int) (y0 : Int) (μ : mm), J5_ownBy_43 N x1 x2 x6 x7 y0 μ = some res → ∀ (H : Heap) (locs : List Loc) (ls : Array Slot), zW D cy ad A s.heap μ H locs → lv_has ls 9 [(0, .ref (ad 0)), (1, .int (iO x1)), (2, .int (iO x2)), (6, .int (iO x6)), (7, .int (iO x7))] → W p l e (rmD 6) s m args below meth c H locs 0 0 (MQ below (zQi D cy ad A res.1 res.2) args s 0 0 A) (F0 m 43 ls [.int (iO y0)]) := by
  intro x1 x2 x6 x7 y0 μ h H locs ls hW hl
  rw [J5_ownBy_43] at h
  refine z_istore (pc := 43) (i := 8) X.1 [(8, .int (iO y0)), (0, .ref (ad 0)), (1, .int (iO x1)), (2, .int (iO x2)), (6, .int (iO x6)), (7, .int (iO x7))] hl rfl (by decide) rfl dX5_ownBy_43 (fun ls hl => ?_)
  refine z_aload_n (pc := 45) X.1 hl 1 rfl rfl dX5_ownBy_45 ?_
  refine z_get1 (pc := 46) X.1 hW rfl iX5_ownBy_1 1 (by decide) rfl (by decide +kernel) dX5_ownBy_46 ?_
  refine z_iload (pc := 49) X.1 hl 4 rfl dX5_ownBy_49 ?_
  obtain ⟨q4, eq4, h⟩ := z_bind h
  refine z_callSV (pc := 51) (n := 2) (As := [.ref (ad 2), .int (iO x6)]) (rest := []) X hW hl (C5_daysOn l N 2 x6 (by decide) μ eq4) gX5_ownBy_X5_daysOn rfl (by decide +kernel) rfl (by decide) rfl (Nat.le_of_ble_eq_true rfl) dX5_ownBy_51 (fun H locs hW => ?_)
  refine z_aload_n (pc := 54) X.1 hl 1 rfl rfl dX5_ownBy_54 ?_
  refine z_aload_n (pc := 55) X.1 hl 1 rfl rfl dX5_ownBy_55 ?_
  refine z_get1 (pc := 56) X.1 hW rfl iX5_ownBy_1 1 (by decide) rfl (by decide +kernel) dX5_ownBy_56 ?_
  refine z_iload_n (pc := 59) X.1 hl 2 rfl rfl dX5_ownBy_59 ?_
  obtain ⟨q5, eq5, h⟩ := z_bind h
  refine z_callV1I (pc := 60) (n := 2) (As := [.ref (ad 2), .int (iO x1)]) (rest := []) X hW hl rfl (C5_throughOf l N 2 x1 (by decide) q4 eq5) gX5_ownBy_X5_throughOf rfl (by decide +kernel) rfl (by decide) rfl (Nat.le_of_ble_eq_true rfl) dX5_ownBy_60 (fun H locs hW => ?_)
  refine z_iload_n (pc := 63) X.1 hl 2 rfl rfl dX5_ownBy_63 ?_
  refine z_iload_n (pc := 64) X.1 hl 3 rfl rfl dX5_ownBy_64 ?_
  obtain ⟨g6, h⟩ := z_guard h
  refine z_icmp_ne (pc := 65) (tgt := 73) X.1 dX5_ownBy_65 (by decide) ⟨g6.1, g6.2⟩ h (fun c9 h => ?_) (fun c9 h => ?_)
  · refine z_iload (pc := 73) X.1 hl 0 rfl dX5_ownBy_73 ?_
    refine z_bipush (pc := 75) X.1 dX5_ownBy_75 (by decide) ?_
    obtain ⟨g7, h⟩ := z_guard h
    refine z_idiv (pc := 77) X.1 dX5_ownBy_77 ⟨g7.1, (by decide), g7.2, (by decide)⟩ ?_
    refine z_isub (pc := 78) X.1 dX5_ownBy_78 ?_
    exact z_iret (pc := 79) X hW (z_p1 h) (z_p2 h) dX5_ownBy_79
  · refine z_iload (pc := 68) X.1 hl 5 rfl dX5_ownBy_68 ?_
    refine z_goto (pc := 70) (tgt := 75) X.1 dX5_ownBy_70 (by decide) ?_
    refine z_bipush (pc := 75) X.1 dX5_ownBy_75 (by decide) ?_
    obtain ⟨g8, h⟩ := z_guard h
    refine z_idiv (pc := 77) X.1 dX5_ownBy_77 ⟨g8.1, (by decide), g8.2, (by decide)⟩ ?_
    refine z_isub (pc := 78) X.1 dX5_ownBy_78 ?_
    exact z_iret (pc := 79) X hW (z_p1 h) (z_p2 h) dX5_ownBy_79
theorem CJ5_ownBy_25 (X : zX p s m args meth c cX5_ownBy RX5 wsX5_ownBy 9 D cy ad (some .int) A) (N : Nat) : ∀ (x1 : Int) (x2 : Int) (x4 : Int) (x5 : Int) (x6 : Int) (y0 : Int) (μ : mm), J5_ownBy_25 N x1 x2 x4 x5 x6 y0 μ = some res → ∀ (H : Heap) (locs : List Loc) (ls : Array Slot), zW D cy ad A s.heap μ H locs → lv_has ls 9 [(0, .ref (ad 0)), (1, .int (iO x1)), (2, .int (iO x2)), (4, .int (iO x4)), (5, .int (iO x5)), (6, .int (iO x6))] → W p l e (rmD 6) s m args below meth c H locs 0 0 (MQ below (zQi D cy ad A res.1 res.2) args s 0 0 A) (F0 m 25 ls [.int (iO y0)]) := by
  intro x1 x2 x4 x5 x6 y0 μ h H locs ls hW hl
  rw [J5_ownBy_25] at h
  refine z_istore (pc := 25) (i := 7) X.1 [(7, .int (iO y0)), (0, .ref (ad 0)), (1, .int (iO x1)), (2, .int (iO x2)), (4, .int (iO x4)), (5, .int (iO x5)), (6, .int (iO x6))] hl rfl (by decide) rfl dX5_ownBy_25 (fun ls hl => ?_)
  refine z_iload (pc := 27) X.1 hl 5 rfl dX5_ownBy_27 ?_
  refine z_iconst (pc := 29) X.1 dX5_ownBy_29 ?_
  obtain ⟨g3, h⟩ := z_guard h
  refine z_icmp_ne (pc := 30) (tgt := 42) X.1 dX5_ownBy_30 (by decide) ⟨g3, (by decide)⟩ h (fun c11 h => ?_) (fun c11 h => ?_)
  · refine z_iconst (pc := 42) X.1 dX5_ownBy_42 ?_
    exact CJ5_ownBy_43 X N x1 x2 x6 y0 0 μ h _ _ ls hW (lv_sub hl [1, 2, 3, 6, 0] rfl)
  · refine z_aload_n (pc := 33) X.1 hl 1 rfl rfl dX5_ownBy_33 ?_
    refine z_iload (pc := 34) X.1 hl 4 rfl dX5_ownBy_34 ?_
    obtain ⟨q10, eq10, h⟩ := z_bind h
    refine z_callV1I (pc := 36) (n := 1) (As := [.int (iO x4)]) (rest := []) X hW hl rfl (C5_signs l N x4 μ eq10) gX5_ownBy_X5_signs rfl (by decide +kernel) rfl (by decide) rfl (Nat.le_of_ble_eq_true rfl) dX5_ownBy_36 (fun H locs hW => ?_)
    refine z_goto (pc := 39) (tgt := 43) X.1 dX5_ownBy_39 (by decide) ?_
    exact CJ5_ownBy_43 X N x1 x2 x6 y0 q10.1 q10.2 h _ _ ls hW (lv_sub hl [1, 2, 3, 6, 0] rfl)
end
theorem C5_ownBy (l : Launch) {D : va_G} {cy : ClassId × ClassId} {ad : Nat → Nat} (N : Nat) (a0 : Int) (a1 : Int) (a2 : Int) (a3 : Int) (a4 : Int) (a5 : Int) (μ : mm) {res : (Int × mm)} (h : M5_ownBy N a0 a1 a2 a3 a4 a5 μ = some res) : zI l yX5_ownBy wsX5_ownBy 6 D cy ad [.ref (ad 0), .int (iO a0), .int (iO a1), .int (iO a2), .int (iO a3), .int (iO a4), .int (iO a5)] μ res.1 res.2 := by
  refine zI.of RX5 rfl (by decide) rfl (Nat.le_of_ble_eq_true rfl) ?_
  intro p e s m args below meth c A X hW ls hl
  have hl : lv_has ls 9 [(0, .ref (ad 0)), (1, .int (iO a0)), (2, .int (iO a1)), (3, .int (iO a2)), (4, .int (iO a3)), (5, .int (iO a4)), (6, .int (iO a5))] := hl
  unfold M5_ownBy at h
  refine z_aload_n (pc := 0) X.1 hl 0 rfl rfl dX5_ownBy_0 ?_
  refine z_get1 (pc := 1) X.1 hW rfl iX5_ownBy_1 0 (by decide) rfl (by decide +kernel) dX5_ownBy_1 ?_
  refine z_aload_n (pc := 4) X.1 hl 0 rfl rfl dX5_ownBy_4 ?_
  refine z_get1 (pc := 5) X.1 hW rfl iX5_ownBy_1 1 (by decide) rfl (by decide +kernel) dX5_ownBy_5 ?_
  obtain ⟨q1, eq1, h⟩ := z_bind h
  refine z_callSV (pc := 8) (n := 2) (As := [.ref (ad 1), .ref (ad 2)]) (rest := []) X hW hl (C5_copies l N 1 2 (by decide) (by decide) μ eq1) gX5_ownBy_X5_copies rfl (by decide +kernel) rfl (by decide) rfl (Nat.le_of_ble_eq_true rfl) dX5_ownBy_8 (fun H locs hW => ?_)
  refine z_iload_n (pc := 11) X.1 hl 3 rfl rfl dX5_ownBy_11 ?_
  refine z_iconst (pc := 12) X.1 dX5_ownBy_12 ?_
  obtain ⟨g2, h⟩ := z_guard h
  refine z_icmp_ne (pc := 13) (tgt := 24) X.1 dX5_ownBy_13 (by decide) ⟨g2, (by decide)⟩ h (fun c13 h => ?_) (fun c13 h => ?_)
  · refine z_iconst (pc := 24) X.1 dX5_ownBy_24 ?_
    exact CJ5_ownBy_25 X N a0 a1 a3 a4 a5 0 q1 h _ _ ls hW (lv_sub hl [0, 1, 2, 4, 5, 6] rfl)
  · refine z_aload_n (pc := 16) X.1 hl 0 rfl rfl dX5_ownBy_16 ?_
    refine z_iload_n (pc := 17) X.1 hl 2 rfl rfl dX5_ownBy_17 ?_
    obtain ⟨q12, eq12, h⟩ := z_bind h
    refine z_callV1I (pc := 18) (n := 1) (As := [.int (iO a1)]) (rest := []) X hW hl rfl (C5_signs l N a1 q1 eq12) gX5_ownBy_X5_signs rfl (by decide +kernel) rfl (by decide) rfl (Nat.le_of_ble_eq_true rfl) dX5_ownBy_18 (fun H locs hW => ?_)
    refine z_goto (pc := 21) (tgt := 25) X.1 dX5_ownBy_21 (by decide) ?_
    exact CJ5_ownBy_25 X N a0 a1 a3 a4 a5 q12.1 q12.2 h _ _ ls hW (lv_sub hl [0, 1, 2, 4, 5, 6] rfl)
