-- X4_comes
theorem iX4_comes_7 : ∀ w ∈ wsX40, w ∈ wsX4_comes := by decide +kernel
theorem C4_comes (l : Launch) {D : va_G} {cy : ClassId × ClassId} {ad : Nat → Nat} (N : Nat) (a0 : Int) (μ : mm) {res : (Int × mm)} (h : M4_comes N a0 μ = some res) : zI l yX4_comes wsX4_comes 5 D cy ad [.ref (ad 9), .int (iO a0)] μ res.1 res.2 := by
  refine zI.of RX4 rfl (by decide) rfl (Nat.le_of_ble_eq_true rfl) ?_
  intro p e s m args below meth c A X hW ls hl
  have hl : lv_has ls 3 [(0, .ref (ad 9)), (1, .int (iO a0))] := hl
  unfold M4_comes at h
  refine z_aload_n (pc := 0) X.1 hl 0 rfl rfl dX4_comes_0 ?_
  refine z_get7 (pc := 1) X.1 hW rfl iX4_comes_7 4 (by decide) rfl (by decide +kernel) dX4_comes_1 ?_
  refine z_iload_n (pc := 4) X.1 hl 1 rfl rfl dX4_comes_4 ?_
  refine z_iconst (pc := 5) X.1 dX4_comes_5 ?_
  refine z_iadd (pc := 6) X.1 dX4_comes_6 ?_
  refine z_iconst (pc := 7) X.1 dX4_comes_7 ?_
  obtain ⟨q1, eq1, h⟩ := z_bind h
  refine z_callV6I (pc := 8) (n := 2) (As := [.int (iO (a0 + 1)), .int (iO 1)]) (rest := []) X hW hl rfl (C3_number l N (a0 + 1) 1 μ eq1) gX4_comes_X3_number rfl (by decide +kernel) rfl (by decide) rfl (Nat.le_of_ble_eq_true rfl) dX4_comes_8 (fun H locs hW => ?_)
  refine z_istore_n (pc := 11) (i := 2) X.1 [(2, .int (iO q1)), (0, .ref (ad 9)), (1, .int (iO a0))] hl rfl rfl (by decide) rfl dX4_comes_11 (fun ls hl => ?_)
  refine z_aload_n (pc := 12) X.1 hl 1 rfl rfl dX4_comes_12 ?_
  refine z_get7 (pc := 13) X.1 hW rfl iX4_comes_7 4 (by decide) rfl (by decide +kernel) dX4_comes_13 ?_
  refine z_iload_n (pc := 16) X.1 hl 2 rfl rfl dX4_comes_16 ?_
  obtain ⟨q2, eq2, h⟩ := z_bind h
  refine z_callV6I (pc := 17) (n := 1) (As := [.int (iO a0)]) (rest := []) X hW hl rfl (C3_letterAt l N a0 μ eq2) gX4_comes_X3_letterAt rfl (by decide +kernel) rfl (by decide) rfl (Nat.le_of_ble_eq_true rfl) dX4_comes_17 (fun H locs hW => ?_)
  obtain ⟨g3, h⟩ := z_guard h
  by_cases c7 : q2 = 100
  · rw [if_pos c7] at h
    refine z_tin (pc := 20) (v := 100) (tgt := 216) X.1 dX4_comes_20 c7 (by decide) (by decide) rfl (by decide) ?_
    refine z_aload_n (pc := 216) X.1 hl 1 rfl rfl dX4_comes_216 ?_
    refine z_get7 (pc := 217) X.1 hW rfl iX4_comes_7 1 (by decide) rfl (by decide +kernel) dX4_comes_217 ?_
    refine z_aload_n (pc := 220) X.1 hl 1 rfl rfl dX4_comes_220 ?_
    refine z_get7 (pc := 221) X.1 hW rfl iX4_comes_7 4 (by decide) rfl (by decide +kernel) dX4_comes_221 ?_
    refine z_iload_n (pc := 224) X.1 hl 2 rfl rfl dX4_comes_224 ?_
    refine z_iconst (pc := 225) X.1 dX4_comes_225 ?_
    refine z_iadd (pc := 226) X.1 dX4_comes_226 ?_
    refine z_iconst (pc := 227) X.1 dX4_comes_227 ?_
    obtain ⟨q4, eq4, h⟩ := z_bind h
    refine z_callV6I (pc := 228) (n := 2) (As := [.int (iO (a0 + 1)), .int (iO 2)]) (rest := [.ref (ad 21)]) X hW hl rfl (C3_number l N (a0 + 1) 2 μ eq4) gX4_comes_X3_number rfl (by decide +kernel) rfl (by decide) rfl (Nat.le_of_ble_eq_true rfl) dX4_comes_228 (fun H locs hW => ?_)
    obtain ⟨q5, eq5, h⟩ := z_bind h
    refine z_callV3I (pc := 231) (n := 1) (As := [.int (iO q4)]) (rest := []) X hW hl rfl (C1_daysCome l N 21 q4 rfl μ eq5) gX4_comes_X1_daysCome rfl (by decide +kernel) rfl (by decide) rfl (Nat.le_of_ble_eq_true rfl) dX4_comes_231 (fun H locs hW => ?_)
    obtain ⟨g6, h⟩ := z_guard h
    exact z_zret (pc := 234) X hW g6 (z_p1 h) (z_p2 h) dX4_comes_234
  · rw [if_neg c7] at h
    by_cases c8 : q2 = 101
    · rw [if_pos c8] at h
      refine z_tin (pc := 20) (v := 101) (tgt := 235) X.1 dX4_comes_20 c8 (by decide) (by decide) rfl (by decide) ?_
      refine z_iconst (pc := 235) X.1 dX4_comes_235 ?_
      exact z_zret (pc := 236) X hW (by decide) (z_p1 h) (z_p2 h) dX4_comes_236
    · rw [if_neg c8] at h
      by_cases c9 : q2 = 102
      · rw [if_pos c9] at h
        refine z_tin (pc := 20) (v := 102) (tgt := 235) X.1 dX4_comes_20 c9 (by decide) (by decide) rfl (by decide) ?_
        refine z_iconst (pc := 235) X.1 dX4_comes_235 ?_
        exact z_zret (pc := 236) X hW (by decide) (z_p1 h) (z_p2 h) dX4_comes_236
      · rw [if_neg c9] at h
        by_cases c13 : q2 = 103
        · rw [if_pos c13] at h
          refine z_tin (pc := 20) (v := 103) (tgt := 197) X.1 dX4_comes_20 c13 (by decide) (by decide) rfl (by decide) ?_
          refine z_aload_n (pc := 197) X.1 hl 1 rfl rfl dX4_comes_197 ?_
          refine z_get7 (pc := 198) X.1 hW rfl iX4_comes_7 1 (by decide) rfl (by decide +kernel) dX4_comes_198 ?_
          refine z_aload_n (pc := 201) X.1 hl 1 rfl rfl dX4_comes_201 ?_
          refine z_get7 (pc := 202) X.1 hW rfl iX4_comes_7 4 (by decide) rfl (by decide +kernel) dX4_comes_202 ?_
          refine z_iload_n (pc := 205) X.1 hl 2 rfl rfl dX4_comes_205 ?_
          refine z_iconst (pc := 206) X.1 dX4_comes_206 ?_
          refine z_iadd (pc := 207) X.1 dX4_comes_207 ?_
          refine z_iconst (pc := 208) X.1 dX4_comes_208 ?_
          obtain ⟨q10, eq10, h⟩ := z_bind h
          refine z_callV6I (pc := 209) (n := 2) (As := [.int (iO (a0 + 1)), .int (iO 3)]) (rest := [.ref (ad 21)]) X hW hl rfl (C3_number l N (a0 + 1) 3 μ eq10) gX4_comes_X3_number rfl (by decide +kernel) rfl (by decide) rfl (Nat.le_of_ble_eq_true rfl) dX4_comes_209 (fun H locs hW => ?_)
          obtain ⟨q11, eq11, h⟩ := z_bind h
          refine z_callV3I (pc := 212) (n := 1) (As := [.int (iO q10)]) (rest := []) X hW hl rfl (C1_fill l N 21 q10 rfl μ eq11) gX4_comes_X1_fill rfl (by decide +kernel) rfl (by decide) rfl (Nat.le_of_ble_eq_true rfl) dX4_comes_212 (fun H locs hW => ?_)
          obtain ⟨g12, h⟩ := z_guard h
          exact z_zret (pc := 215) X hW g12 (z_p1 h) (z_p2 h) dX4_comes_215
        · rw [if_neg c13] at h
          by_cases c14 : q2 = 104
          · rw [if_pos c14] at h
            refine z_tin (pc := 20) (v := 104) (tgt := 235) X.1 dX4_comes_20 c14 (by decide) (by decide) rfl (by decide) ?_
            refine z_iconst (pc := 235) X.1 dX4_comes_235 ?_
            exact z_zret (pc := 236) X hW (by decide) (z_p1 h) (z_p2 h) dX4_comes_236
          · rw [if_neg c14] at h
            by_cases c18 : q2 = 105
            · rw [if_pos c18] at h
              refine z_tin (pc := 20) (v := 105) (tgt := 148) X.1 dX4_comes_20 c18 (by decide) (by decide) rfl (by decide) ?_
              refine z_aload_n (pc := 148) X.1 hl 1 rfl rfl dX4_comes_148 ?_
              refine z_get7 (pc := 149) X.1 hW rfl iX4_comes_7 1 (by decide) rfl (by decide +kernel) dX4_comes_149 ?_
              refine z_iload_n (pc := 152) X.1 hl 0 rfl rfl dX4_comes_152 ?_
              refine z_aload_n (pc := 153) X.1 hl 1 rfl rfl dX4_comes_153 ?_
              refine z_get7 (pc := 154) X.1 hW rfl iX4_comes_7 4 (by decide) rfl (by decide +kernel) dX4_comes_154 ?_
              refine z_iload_n (pc := 157) X.1 hl 2 rfl rfl dX4_comes_157 ?_
              refine z_iconst (pc := 158) X.1 dX4_comes_158 ?_
              refine z_iadd (pc := 159) X.1 dX4_comes_159 ?_
              refine z_iconst (pc := 160) X.1 dX4_comes_160 ?_
              obtain ⟨q15, eq15, h⟩ := z_bind h
              refine z_callV6I (pc := 161) (n := 2) (As := [.int (iO (a0 + 2)), .int (iO 2)]) (rest := [.int (iO q1), .ref (ad 21)]) X hW hl rfl (C3_number l N (a0 + 2) 2 μ eq15) gX4_comes_X3_number rfl (by decide +kernel) rfl (by decide) rfl (Nat.le_of_ble_eq_true rfl) dX4_comes_161 (fun H locs hW => ?_)
              obtain ⟨q16, eq16, h⟩ := z_bind h
              refine z_callV3I (pc := 164) (n := 2) (As := [.int (iO q1), .int (iO q15)]) (rest := []) X hW hl rfl (C1_issue l N 21 q1 q15 rfl μ eq16) gX4_comes_X1_issue rfl (by decide +kernel) rfl (by decide) rfl (Nat.le_of_ble_eq_true rfl) dX4_comes_164 (fun H locs hW => ?_)
              obtain ⟨g17, h⟩ := z_guard h
              exact z_zret (pc := 167) X hW g17 (z_p1 h) (z_p2 h) dX4_comes_167
            · rw [if_neg c18] at h
              by_cases c19 : q2 = 106
              · rw [if_pos c19] at h
                refine z_tin (pc := 20) (v := 106) (tgt := 235) X.1 dX4_comes_20 c19 (by decide) (by decide) rfl (by decide) ?_
                refine z_iconst (pc := 235) X.1 dX4_comes_235 ?_
                exact z_zret (pc := 236) X hW (by decide) (z_p1 h) (z_p2 h) dX4_comes_236
              · rw [if_neg c19] at h
                by_cases c20 : q2 = 107
                · rw [if_pos c20] at h
                  refine z_tin (pc := 20) (v := 107) (tgt := 235) X.1 dX4_comes_20 c20 (by decide) (by decide) rfl (by decide) ?_
                  refine z_iconst (pc := 235) X.1 dX4_comes_235 ?_
                  exact z_zret (pc := 236) X hW (by decide) (z_p1 h) (z_p2 h) dX4_comes_236
                · rw [if_neg c20] at h
                  by_cases c21 : q2 = 108
                  · rw [if_pos c21] at h
                    refine z_tin (pc := 20) (v := 108) (tgt := 235) X.1 dX4_comes_20 c21 (by decide) (by decide) rfl (by decide) ?_
                    refine z_iconst (pc := 235) X.1 dX4_comes_235 ?_
                    exact z_zret (pc := 236) X hW (by decide) (z_p1 h) (z_p2 h) dX4_comes_236
                  · rw [if_neg c21] at h
                    by_cases c22 : q2 = 109
                    · rw [if_pos c22] at h
                      refine z_tin (pc := 20) (v := 109) (tgt := 235) X.1 dX4_comes_20 c22 (by decide) (by decide) rfl (by decide) ?_
                      refine z_iconst (pc := 235) X.1 dX4_comes_235 ?_
                      exact z_zret (pc := 236) X hW (by decide) (z_p1 h) (z_p2 h) dX4_comes_236
                    · rw [if_neg c22] at h
                      by_cases c23 : q2 = 110
                      · rw [if_pos c23] at h
                        refine z_tin (pc := 20) (v := 110) (tgt := 235) X.1 dX4_comes_20 c23 (by decide) (by decide) rfl (by decide) ?_
                        refine z_iconst (pc := 235) X.1 dX4_comes_235 ?_
                        exact z_zret (pc := 236) X hW (by decide) (z_p1 h) (z_p2 h) dX4_comes_236
                      · rw [if_neg c23] at h
                        by_cases c24 : q2 = 111
                        · rw [if_pos c24] at h
                          refine z_tin (pc := 20) (v := 111) (tgt := 235) X.1 dX4_comes_20 c24 (by decide) (by decide) rfl (by decide) ?_
                          refine z_iconst (pc := 235) X.1 dX4_comes_235 ?_
                          exact z_zret (pc := 236) X hW (by decide) (z_p1 h) (z_p2 h) dX4_comes_236
                        · rw [if_neg c24] at h
                          by_cases c30 : q2 = 112
                          · rw [if_pos c30] at h
                            refine z_tin (pc := 20) (v := 112) (tgt := 108) X.1 dX4_comes_20 c30 (by decide) (by decide) rfl (by decide) ?_
                            refine z_aload_n (pc := 108) X.1 hl 1 rfl rfl dX4_comes_108 ?_
                            refine z_get7 (pc := 109) X.1 hW rfl iX4_comes_7 1 (by decide) rfl (by decide +kernel) dX4_comes_109 ?_
                            refine z_aload_n (pc := 112) X.1 hl 1 rfl rfl dX4_comes_112 ?_
                            refine z_get7 (pc := 113) X.1 hW rfl iX4_comes_7 4 (by decide) rfl (by decide +kernel) dX4_comes_113 ?_
                            refine z_iload_n (pc := 116) X.1 hl 2 rfl rfl dX4_comes_116 ?_
                            refine z_iconst (pc := 117) X.1 dX4_comes_117 ?_
                            refine z_iadd (pc := 118) X.1 dX4_comes_118 ?_
                            obtain ⟨q25, eq25, h⟩ := z_bind h
                            refine z_callV6I (pc := 119) (n := 1) (As := [.int (iO (a0 + 1))]) (rest := [.ref (ad 21)]) X hW hl rfl (C3_kindAt l N (a0 + 1) μ eq25) gX4_comes_X3_kindAt rfl (by decide +kernel) rfl (by decide) rfl (Nat.le_of_ble_eq_true rfl) dX4_comes_119 (fun H locs hW => ?_)
                            refine z_aload_n (pc := 122) X.1 hl 1 rfl rfl dX4_comes_122 ?_
                            refine z_get7 (pc := 123) X.1 hW rfl iX4_comes_7 4 (by decide) rfl (by decide +kernel) dX4_comes_123 ?_
                            refine z_iload_n (pc := 126) X.1 hl 2 rfl rfl dX4_comes_126 ?_
                            refine z_iconst (pc := 127) X.1 dX4_comes_127 ?_
                            refine z_iadd (pc := 128) X.1 dX4_comes_128 ?_
                            refine z_iconst (pc := 129) X.1 dX4_comes_129 ?_
                            obtain ⟨q26, eq26, h⟩ := z_bind h
                            refine z_callV6I (pc := 130) (n := 2) (As := [.int (iO (a0 + 2)), .int (iO 1)]) (rest := [.int (iO q25), .ref (ad 21)]) X hW hl rfl (C3_number l N (a0 + 2) 1 μ eq26) gX4_comes_X3_number rfl (by decide +kernel) rfl (by decide) rfl (Nat.le_of_ble_eq_true rfl) dX4_comes_130 (fun H locs hW => ?_)
                            refine z_aload_n (pc := 133) X.1 hl 1 rfl rfl dX4_comes_133 ?_
                            refine z_get7 (pc := 134) X.1 hW rfl iX4_comes_7 4 (by decide) rfl (by decide +kernel) dX4_comes_134 ?_
                            refine z_iload_n (pc := 137) X.1 hl 2 rfl rfl dX4_comes_137 ?_
                            refine z_iconst (pc := 138) X.1 dX4_comes_138 ?_
                            refine z_iadd (pc := 139) X.1 dX4_comes_139 ?_
                            refine z_iconst (pc := 140) X.1 dX4_comes_140 ?_
                            obtain ⟨q27, eq27, h⟩ := z_bind h
                            refine z_callV6I (pc := 141) (n := 2) (As := [.int (iO (a0 + 3)), .int (iO 2)]) (rest := [.int (iO q26), .int (iO q25), .ref (ad 21)]) X hW hl rfl (C3_number l N (a0 + 3) 2 μ eq27) gX4_comes_X3_number rfl (by decide +kernel) rfl (by decide) rfl (Nat.le_of_ble_eq_true rfl) dX4_comes_141 (fun H locs hW => ?_)
                            obtain ⟨q28, eq28, h⟩ := z_bind h
                            refine z_callV3I (pc := 144) (n := 3) (As := [.int (iO q25), .int (iO q26), .int (iO q27)]) (rest := []) X hW hl rfl (C1_welcome l N 21 q25 q26 q27 rfl μ eq28) gX4_comes_X1_welcome rfl (by decide +kernel) rfl (by decide) rfl (Nat.le_of_ble_eq_true rfl) dX4_comes_144 (fun H locs hW => ?_)
                            obtain ⟨g29, h⟩ := z_guard h
                            exact z_zret (pc := 147) X hW g29 (z_p1 h) (z_p2 h) dX4_comes_147
                          · rw [if_neg c30] at h
                            by_cases c31 : q2 = 113
                            · rw [if_pos c31] at h
                              refine z_tin (pc := 20) (v := 113) (tgt := 235) X.1 dX4_comes_20 c31 (by decide) (by decide) rfl (by decide) ?_
                              refine z_iconst (pc := 235) X.1 dX4_comes_235 ?_
                              exact z_zret (pc := 236) X hW (by decide) (z_p1 h) (z_p2 h) dX4_comes_236
                            · rw [if_neg c31] at h
                              by_cases c34 : q2 = 114
                              · rw [if_pos c34] at h
                                refine z_tin (pc := 20) (v := 114) (tgt := 168) X.1 dX4_comes_20 c34 (by decide) (by decide) rfl (by decide) ?_
                                refine z_aload_n (pc := 168) X.1 hl 1 rfl rfl dX4_comes_168 ?_
                                refine z_get7 (pc := 169) X.1 hW rfl iX4_comes_7 1 (by decide) rfl (by decide +kernel) dX4_comes_169 ?_
                                refine z_iload_n (pc := 172) X.1 hl 0 rfl rfl dX4_comes_172 ?_
                                obtain ⟨q32, eq32, h⟩ := z_bind h
                                refine z_callV3I (pc := 173) (n := 1) (As := [.int (iO q1)]) (rest := []) X hW hl rfl (C1_handIn l N 21 q1 rfl μ eq32) gX4_comes_X1_handIn rfl (by decide +kernel) rfl (by decide) rfl (Nat.le_of_ble_eq_true rfl) dX4_comes_173 (fun H locs hW => ?_)
                                obtain ⟨g33, h⟩ := z_guard h
                                exact z_zret (pc := 176) X hW g33 (z_p1 h) (z_p2 h) dX4_comes_176
                              · rw [if_neg c34] at h
                                by_cases c35 : q2 = 115
                                · rw [if_pos c35] at h
                                  refine z_tin (pc := 20) (v := 115) (tgt := 235) X.1 dX4_comes_20 c35 (by decide) (by decide) rfl (by decide) ?_
                                  refine z_iconst (pc := 235) X.1 dX4_comes_235 ?_
                                  exact z_zret (pc := 236) X hW (by decide) (z_p1 h) (z_p2 h) dX4_comes_236
                                · rw [if_neg c35] at h
                                  by_cases c36 : q2 = 116
                                  · rw [if_pos c36] at h
                                    refine z_tin (pc := 20) (v := 116) (tgt := 235) X.1 dX4_comes_20 c36 (by decide) (by decide) rfl (by decide) ?_
                                    refine z_iconst (pc := 235) X.1 dX4_comes_235 ?_
                                    exact z_zret (pc := 236) X hW (by decide) (z_p1 h) (z_p2 h) dX4_comes_236
                                  · rw [if_neg c36] at h
                                    by_cases c40 : q2 = 117
                                    · rw [if_pos c40] at h
                                      refine z_tin (pc := 20) (v := 117) (tgt := 177) X.1 dX4_comes_20 c40 (by decide) (by decide) rfl (by decide) ?_
                                      refine z_aload_n (pc := 177) X.1 hl 1 rfl rfl dX4_comes_177 ?_
                                      refine z_get7 (pc := 178) X.1 hW rfl iX4_comes_7 1 (by decide) rfl (by decide +kernel) dX4_comes_178 ?_
                                      refine z_iload_n (pc := 181) X.1 hl 0 rfl rfl dX4_comes_181 ?_
                                      refine z_aload_n (pc := 182) X.1 hl 1 rfl rfl dX4_comes_182 ?_
                                      refine z_get7 (pc := 183) X.1 hW rfl iX4_comes_7 4 (by decide) rfl (by decide +kernel) dX4_comes_183 ?_
                                      refine z_iload_n (pc := 186) X.1 hl 2 rfl rfl dX4_comes_186 ?_
                                      refine z_iconst (pc := 187) X.1 dX4_comes_187 ?_
                                      refine z_iadd (pc := 188) X.1 dX4_comes_188 ?_
                                      refine z_iconst (pc := 189) X.1 dX4_comes_189 ?_
                                      obtain ⟨q37, eq37, h⟩ := z_bind h
                                      refine z_callV6I (pc := 190) (n := 2) (As := [.int (iO (a0 + 2)), .int (iO 2)]) (rest := [.int (iO q1), .ref (ad 21)]) X hW hl rfl (C3_number l N (a0 + 2) 2 μ eq37) gX4_comes_X3_number rfl (by decide +kernel) rfl (by decide) rfl (Nat.le_of_ble_eq_true rfl) dX4_comes_190 (fun H locs hW => ?_)
                                      obtain ⟨q38, eq38, h⟩ := z_bind h
                                      refine z_callV3I (pc := 193) (n := 2) (As := [.int (iO q1), .int (iO q37)]) (rest := []) X hW hl rfl (C1_setDue l N 21 q1 q37 rfl μ eq38) gX4_comes_X1_setDue rfl (by decide +kernel) rfl (by decide) rfl (Nat.le_of_ble_eq_true rfl) dX4_comes_193 (fun H locs hW => ?_)
                                      obtain ⟨g39, h⟩ := z_guard h
                                      exact z_zret (pc := 196) X hW g39 (z_p1 h) (z_p2 h) dX4_comes_196
                                    · rw [if_neg c40] at h
                                      refine z_tout (pc := 20) (tgt := 235) X.1 dX4_comes_20 g3 (by omega) (by decide) ?_
                                      refine z_iconst (pc := 235) X.1 dX4_comes_235 ?_
                                      exact z_zret (pc := 236) X hW (by decide) (z_p1 h) (z_p2 h) dX4_comes_236
-- X4_read
theorem iX4_read_6 : ∀ w ∈ wsX30, w ∈ wsX4_read := by decide +kernel
theorem iX4_read_7 : ∀ w ∈ wsX40, w ∈ wsX4_read := by decide +kernel
section
variable {p : Program} {l : Launch} {e : Env} {s : State} {m : MethodId} {args : Array Value} {below : List Frame} {meth : Method} {c : Code} {D : va_G} {cy : ClassId × ClassId} {ad : Nat → Nat} {A : Nat → Prop} {res : (Int × mm)}
theorem CJ4_read_81 (X : zX p s m args meth c cX4_read RX4 wsX4_read 4 D cy ad (some .int) A) (N : Nat) : ∀ (x2 : Int) (μ : mm), J4_read_81 N x2 μ = some res → ∀ (H : Heap) (locs : List Loc) (ls : Array Slot), zW D cy ad A s.heap μ H locs → lv_has ls 4 [(0, .ref (ad 9)), (2, .int (iO x2))] → W p l e (rmD 7) s m args below meth c H locs 0 0 (MQ below (zQi D cy ad A res.1 res.2) args s 0 0 A) (F0 m 81 ls []) := by
  intro x2 μ h H locs ls hW hl
  rw [J4_read_81] at h
  refine z_aload_n (pc := 81) X.1 hl 0 rfl rfl dX4_read_81 ?_
  refine z_get7 (pc := 82) X.1 hW rfl iX4_read_7 0 (by decide) rfl (by decide +kernel) dX4_read_82 ?_
  refine z_aload_n (pc := 85) X.1 hl 0 rfl rfl dX4_read_85 ?_
  refine z_get7 (pc := 86) X.1 hW rfl iX4_read_7 1 (by decide) rfl (by decide +kernel) dX4_read_86 ?_
  obtain ⟨q5, eq5, h⟩ := z_bind h
  refine z_callV3V (pc := 89) (n := 1) (As := [.ref (ad 21)]) (rest := []) X hW hl rfl (C1_takeFrom l N 10 21 rfl rfl μ eq5) gX4_read_X1_takeFrom rfl (by decide +kernel) rfl (by decide) rfl (Nat.le_of_ble_eq_true rfl) dX4_read_89 (fun H locs hW => ?_)
  refine z_iload_n (pc := 92) X.1 hl 1 rfl rfl dX4_read_92 ?_
  exact z_iret (pc := 93) X hW (z_p1 h) (z_p2 h) dX4_read_93
theorem CL4_read_33 (X : zX p s m args meth c cX4_read RX4 wsX4_read 4 D cy ad (some .int) A) (N : Nat) : ∀ (k : Nat) (x2 : Int) (x3 : Int) (μ : mm), L4_read_33 N k x2 x3 μ = some res → ∀ (H : Heap) (locs : List Loc) (ls : Array Slot), zW D cy ad A s.heap μ H locs → lv_has ls 4 [(0, .ref (ad 9)), (2, .int (iO x2)), (3, .int (iO x3))] → W p l e (rmD 7) s m args below meth c H locs 0 0 (MQ below (zQi D cy ad A res.1 res.2) args s 0 0 A) (F0 m 33 ls []) := by
  intro k
  induction k with
  | zero =>
    intro x2 x3 μ h H locs ls hW hl
    exact absurd h (by rw [L4_read_33]; exact fun z => by cases z)
  | succ k ih =>
    intro x2 x3 μ h H locs ls hW hl
    rw [L4_read_33] at h
    refine z_iload_n (pc := 33) X.1 hl 2 rfl rfl dX4_read_33 ?_
    refine z_aload_n (pc := 34) X.1 hl 0 rfl rfl dX4_read_34 ?_
    refine z_get7 (pc := 35) X.1 hW rfl iX4_read_7 4 (by decide) rfl (by decide +kernel) dX4_read_35 ?_
    refine z_get6 (pc := 38) X.1 hW rfl iX4_read_6 1 (by decide) rfl (by decide +kernel) dX4_read_38 ?_
    obtain ⟨g4, h⟩ := z_guard h
    refine z_icmp_ge (pc := 41) (tgt := 81) X.1 dX4_read_41 (by decide) ⟨g4.1, g4.2⟩ h (fun c13 h => ?_) (fun c13 h => ?_)
    · exact CJ4_read_81 X N x2 μ h _ _ ls hW (lv_sub hl [0, 1] rfl)
    · refine z_iload_n (pc := 44) X.1 hl 1 rfl rfl dX4_read_44 ?_
      refine z_bipush (pc := 45) X.1 dX4_read_45 (by decide) ?_
      obtain ⟨g6, h⟩ := z_guard h
      refine z_icmp_ge (pc := 47) (tgt := 81) X.1 dX4_read_47 (by decide) ⟨g6, (by decide)⟩ h (fun c12 h => ?_) (fun c12 h => ?_)
      · exact CJ4_read_81 X N x2 μ h _ _ ls hW (lv_sub hl [0, 1] rfl)
      · refine z_aload_n (pc := 50) X.1 hl 0 rfl rfl dX4_read_50 ?_
        refine z_iload_n (pc := 51) X.1 hl 2 rfl rfl dX4_read_51 ?_
        obtain ⟨q7, eq7, h⟩ := z_bind h
        refine z_callV7I (pc := 52) (n := 1) (As := [.int (iO x3)]) (rest := []) X hW hl rfl (C4_comes l N x3 μ eq7) gX4_read_X4_comes rfl (by decide +kernel) rfl (by decide) rfl (Nat.le_of_ble_eq_true rfl) dX4_read_52 (fun H locs hW => ?_)
        obtain ⟨g8, h⟩ := z_guard h
        refine z_if_ne (pc := 55) (tgt := 64) X.1 dX4_read_55 (by decide) g8 h (fun c11 h => ?_) (fun c11 h => ?_)
        · refine z_iload_n (pc := 64) X.1 hl 2 rfl rfl dX4_read_64 ?_
          refine z_aload_n (pc := 65) X.1 hl 0 rfl rfl dX4_read_65 ?_
          refine z_get7 (pc := 66) X.1 hW rfl iX4_read_7 4 (by decide) rfl (by decide +kernel) dX4_read_66 ?_
          refine z_iload_n (pc := 69) X.1 hl 2 rfl rfl dX4_read_69 ?_
          obtain ⟨q9, eq9, h⟩ := z_bind h
          refine z_callV6I (pc := 70) (n := 1) (As := [.int (iO x3)]) (rest := [.int (iO x3)]) X hW hl rfl (C3_lengthAt l N x3 q7.2 eq9) gX4_read_X3_lengthAt rfl (by decide +kernel) rfl (by decide) rfl (Nat.le_of_ble_eq_true rfl) dX4_read_70 (fun H locs hW => ?_)
          refine z_iadd (pc := 73) X.1 dX4_read_73 ?_
          obtain ⟨w10, ew10, h⟩ := z_bnd h
          refine z_istore_n (pc := 74) (i := 3) X.1 [(3, .int (iO w10)), (0, .ref (ad 9)), (2, .int (iO x2))] hl ew10 rfl (by decide) rfl dX4_read_74 (fun ls hl => ?_)
          refine z_iinc (pc := 75) (i := 2) X.1 [(2, .int (iO (x2 + 1))), (3, .int (iO w10)), (0, .ref (ad 9))] hl 2 rfl rfl (by decide) rfl dX4_read_75 (fun ls hl => ?_)
          refine z_goto (pc := 78) (tgt := 33) X.1 dX4_read_78 (by decide) ?_
          exact ih (x2 + 1) w10 q7.2 h _ _ ls hW (lv_sub hl [2, 0, 1] rfl)
        · refine z_sipush (pc := 58) X.1 dX4_read_58 (by decide) ?_
          refine z_iload_n (pc := 61) X.1 hl 2 rfl rfl dX4_read_61 ?_
          refine z_isub (pc := 62) X.1 dX4_read_62 ?_
          exact z_iret (pc := 63) X hW (z_p1 h) (z_p2 h) dX4_read_63
end
theorem C4_read (l : Launch) {D : va_G} {cy : ClassId × ClassId} {ad : Nat → Nat} (N : Nat)  (μ : mm) {res : (Int × mm)} (h : M4_read N μ = some res) : zI l yX4_read wsX4_read 7 D cy ad [.ref (ad 9)] μ res.1 res.2 := by
  refine zI.of RX4 rfl (by decide) rfl (Nat.le_of_ble_eq_true rfl) ?_
  intro p e s m args below meth c A X hW ls hl
  have hl : lv_has ls 4 [(0, .ref (ad 9))] := hl
  unfold M4_read at h
  refine z_aload_n (pc := 0) X.1 hl 0 rfl rfl dX4_read_0 ?_
  refine z_get7 (pc := 1) X.1 hW rfl iX4_read_7 4 (by decide) rfl (by decide +kernel) dX4_read_1 ?_
  obtain ⟨q1, eq1, h⟩ := z_bind h
  refine z_callV6I (pc := 4) (n := 0) (As := []) (rest := []) X hW hl rfl (C3_firstWrong l N  μ eq1) gX4_read_X3_firstWrong rfl (by decide +kernel) rfl (by decide) rfl (Nat.le_of_ble_eq_true rfl) dX4_read_4 (fun H locs hW => ?_)
  refine z_istore_n (pc := 7) (i := 1) X.1 [(1, .int (iO q1)), (0, .ref (ad 9))] hl rfl rfl (by decide) rfl dX4_read_7 (fun ls hl => ?_)
  refine z_iload_n (pc := 8) X.1 hl 0 rfl rfl dX4_read_8 ?_
  obtain ⟨g2, h⟩ := z_guard h
  refine z_if_lt (pc := 9) (tgt := 18) X.1 dX4_read_9 (by decide) g2 h (fun c14 h => ?_) (fun c14 h => ?_)
  · refine z_aload_n (pc := 18) X.1 hl 1 rfl rfl dX4_read_18 ?_
    refine z_get7 (pc := 19) X.1 hW rfl iX4_read_7 1 (by decide) rfl (by decide +kernel) dX4_read_19 ?_
    refine z_aload_n (pc := 22) X.1 hl 1 rfl rfl dX4_read_22 ?_
    refine z_get7 (pc := 23) X.1 hW rfl iX4_read_7 0 (by decide) rfl (by decide +kernel) dX4_read_23 ?_
    obtain ⟨q3, eq3, h⟩ := z_bind h
    refine z_callV3V (pc := 26) (n := 1) (As := [.ref (ad 10)]) (rest := []) X hW hl rfl (C1_takeFrom l N 21 10 rfl rfl μ eq3) gX4_read_X1_takeFrom rfl (by decide +kernel) rfl (by decide) rfl (Nat.le_of_ble_eq_true rfl) dX4_read_26 (fun H locs hW => ?_)
    refine z_iconst (pc := 29) X.1 dX4_read_29 ?_
    refine z_istore_n (pc := 30) (i := 2) X.1 [(2, .int (iO 0)), (1, .int (iO q1)), (0, .ref (ad 9))] hl rfl rfl (by decide) rfl dX4_read_30 (fun ls hl => ?_)
    refine z_iconst (pc := 31) X.1 dX4_read_31 ?_
    refine z_istore_n (pc := 32) (i := 3) X.1 [(3, .int (iO 0)), (2, .int (iO 0)), (1, .int (iO q1)), (0, .ref (ad 9))] hl rfl rfl (by decide) rfl dX4_read_32 (fun ls hl => ?_)
    exact CL4_read_33 X N N 0 0 q3 h _ _ ls hW (lv_sub hl [3, 1, 0] rfl)
  · refine z_sipush (pc := 12) X.1 dX4_read_12 (by decide) ?_
    refine z_iload_n (pc := 15) X.1 hl 0 rfl rfl dX4_read_15 ?_
    refine z_isub (pc := 16) X.1 dX4_read_16 ?_
    exact z_iret (pc := 17) X hW (z_p1 h) (z_p2 h) dX4_read_17
-- X4_counter
theorem iX4_counter_6 : ∀ w ∈ wsX30, w ∈ wsX4_counter := by decide +kernel
theorem iX4_counter_7 : ∀ w ∈ wsX40, w ∈ wsX4_counter := by decide +kernel
theorem C4_counter (l : Launch) {D : va_G} {cy : ClassId × ClassId} {ad : Nat → Nat} (N : Nat)  (μ : mm) {res : (Int × mm)} (h : M4_counter N μ = some res) : zI l yX4_counter wsX4_counter 8 D cy ad [.ref (ad 9)] μ res.1 res.2 := by
  refine zI.of RX4 rfl (by decide) rfl (Nat.le_of_ble_eq_true rfl) ?_
  intro p e s m args below meth c A X hW ls hl
  have hl : lv_has ls 2 [(0, .ref (ad 9))] := hl
  unfold M4_counter at h
  refine z_aload_n (pc := 0) X.1 hl 0 rfl rfl dX4_counter_0 ?_
  obtain ⟨q1, eq1, h⟩ := z_bind h
  refine z_callV7I (pc := 1) (n := 0) (As := []) (rest := []) X hW hl rfl (C4_read l N  μ eq1) gX4_counter_X4_read rfl (by decide +kernel) rfl (by decide) rfl (Nat.le_of_ble_eq_true rfl) dX4_counter_1 (fun H locs hW => ?_)
  refine z_istore_n (pc := 4) (i := 1) X.1 [(1, .int (iO q1.1)), (0, .ref (ad 9))] hl rfl rfl (by decide) rfl dX4_counter_4 (fun ls hl => ?_)
  refine z_aload_n (pc := 5) X.1 hl 1 rfl rfl dX4_counter_5 ?_
  refine z_get7 (pc := 6) X.1 hW rfl iX4_counter_7 4 (by decide) rfl (by decide +kernel) dX4_counter_6 ?_
  refine z_iconst (pc := 9) X.1 dX4_counter_9 ?_
  obtain ⟨μ2, eμ2, h⟩ := z_bnd h
  refine z_put6_1 (pc := 10) X.1 hW rfl iX4_counter_6 (by decide +kernel) dX4_counter_10 (fun H locs hW => ?_)
  rw [← eμ2] at hW
  refine z_iload_n (pc := 13) X.1 hl 0 rfl rfl dX4_counter_13 ?_
  exact z_iret (pc := 14) X hW (z_p1 h) (z_p2 h) dX4_counter_14
-- X4_unknown
theorem iX4_unknown_7 : ∀ w ∈ wsX40, w ∈ wsX4_unknown := by decide +kernel
theorem C4_unknown (l : Launch) {D : va_G} {cy : ClassId × ClassId} {ad : Nat → Nat} (N : Nat) (a0 : Int) (μ0 : mm) {res : Int} (h : M4_unknown N a0 μ0 = some res) : zI l yX4_unknown wsX4_unknown 1 D cy ad [.ref (ad 9), .int (iO a0)] μ0 res μ0 := by
  refine zI.of RX4 rfl (by decide) rfl (Nat.le_of_ble_eq_true rfl) ?_
  intro p e s m args below meth c A X hW ls hl
  have hl : lv_has ls 2 [(0, .ref (ad 9)), (1, .int (iO a0))] := hl
  unfold M4_unknown at h
  refine z_aload_n (pc := 0) X.1 hl 0 rfl rfl dX4_unknown_0 ?_
  refine z_get7 (pc := 1) X.1 hW rfl iX4_unknown_7 0 (by decide) rfl (by decide +kernel) dX4_unknown_1 ?_
  refine z_iload_n (pc := 4) X.1 hl 1 rfl rfl dX4_unknown_4 ?_
  obtain ⟨q1, eq1, h⟩ := z_bind h
  refine z_callV3I (pc := 5) (n := 1) (As := [.int (iO a0)]) (rest := []) X hW hl rfl (C1_knows l N 10 a0 rfl μ0 eq1) gX4_unknown_X1_knows rfl (by decide +kernel) rfl (by decide) rfl (Nat.le_of_ble_eq_true rfl) dX4_unknown_5 (fun H locs hW => ?_)
  obtain ⟨g2, h⟩ := z_guard h
  refine z_if_eq (pc := 8) (tgt := 15) X.1 dX4_unknown_8 (by decide) g2 h (fun c3 h => ?_) (fun c3 h => ?_)
  · refine z_iconst (pc := 15) X.1 dX4_unknown_15 ?_
    exact z_iret (pc := 16) X hW (Option.some.inj h) rfl dX4_unknown_16
  · refine z_iconst (pc := 11) X.1 dX4_unknown_11 ?_
    refine z_goto (pc := 12) (tgt := 16) X.1 dX4_unknown_12 (by decide) ?_
    exact z_iret (pc := 16) X hW (Option.some.inj h) rfl dX4_unknown_16
-- X4_other
theorem C4_other (l : Launch) {D : va_G} {cy : ClassId × ClassId} {ad : Nat → Nat} (N : Nat) (a0 : Int) (a1 : Int) (μ0 : mm) {res : Int} (h : M4_other N a0 a1 μ0 = some res) : zI l yX4_other wsX4_other 0 D cy ad [.int (iO a0), .int (iO a1)] μ0 res μ0 := by
  refine zI.of RX4 rfl (by decide) rfl (Nat.le_of_ble_eq_true rfl) ?_
  intro p e s m args below meth c A X hW ls hl
  have hl : lv_has ls 2 [(0, .int (iO a0)), (1, .int (iO a1))] := hl
  unfold M4_other at h
  refine z_iload_n (pc := 0) X.1 hl 0 rfl rfl dX4_other_0 ?_
  obtain ⟨g1, h⟩ := z_guard h
  refine z_if_lt (pc := 1) (tgt := 9) X.1 dX4_other_1 (by decide) g1 h (fun c4 h => ?_) (fun c4 h => ?_)
  · refine z_bipush (pc := 9) X.1 dX4_other_9 (by decide) ?_
    refine z_goto (pc := 11) (tgt := 15) X.1 dX4_other_11 (by decide) ?_
    exact z_iret (pc := 15) X hW (Option.some.inj h) rfl dX4_other_15
  · refine z_iload_n (pc := 4) X.1 hl 0 rfl rfl dX4_other_4 ?_
    refine z_iload_n (pc := 5) X.1 hl 1 rfl rfl dX4_other_5 ?_
    obtain ⟨g2, h⟩ := z_guard h
    refine z_icmp_le (pc := 6) (tgt := 14) X.1 dX4_other_6 (by decide) ⟨g2.1, g2.2⟩ h (fun c3 h => ?_) (fun c3 h => ?_)
    · refine z_iconst (pc := 14) X.1 dX4_other_14 ?_
      exact z_iret (pc := 15) X hW (Option.some.inj h) rfl dX4_other_15
    · refine z_bipush (pc := 9) X.1 dX4_other_9 (by decide) ?_
      refine z_goto (pc := 11) (tgt := 15) X.1 dX4_other_11 (by decide) ?_
      exact z_iret (pc := 15) X hW (Option.some.inj h) rfl dX4_other_15
-- X4_firstOf
theorem C4_firstOf (l : Launch) {D : va_G} {cy : ClassId × ClassId} {ad : Nat → Nat} (N : Nat) (a0 : Int) (a1 : Int) (a2 : Int) (μ0 : mm) {res : Int} (h : M4_firstOf N a0 a1 a2 μ0 = some res) : zI l yX4_firstOf wsX4_firstOf 0 D cy ad [.int (iO a0), .int (iO a1), .int (iO a2)] μ0 res μ0 := by
  refine zI.of RX4 rfl (by decide) rfl (Nat.le_of_ble_eq_true rfl) ?_
  intro p e s m args below meth c A X hW ls hl
  have hl : lv_has ls 3 [(0, .int (iO a0)), (1, .int (iO a1)), (2, .int (iO a2))] := hl
  unfold M4_firstOf at h
  refine z_iload_n (pc := 0) X.1 hl 0 rfl rfl dX4_firstOf_0 ?_
  obtain ⟨g1, h⟩ := z_guard h
  refine z_if_eq (pc := 1) (tgt := 6) X.1 dX4_firstOf_1 (by decide) g1 h (fun c4 h => ?_) (fun c4 h => ?_)
  · refine z_iload_n (pc := 6) X.1 hl 1 rfl rfl dX4_firstOf_6 ?_
    obtain ⟨g2, h⟩ := z_guard h
    refine z_if_eq (pc := 7) (tgt := 14) X.1 dX4_firstOf_7 (by decide) g2 h (fun c3 h => ?_) (fun c3 h => ?_)
    · refine z_iload_n (pc := 14) X.1 hl 2 rfl rfl dX4_firstOf_14 ?_
      exact z_iret (pc := 15) X hW (Option.some.inj h) rfl dX4_firstOf_15
    · refine z_iload_n (pc := 10) X.1 hl 1 rfl rfl dX4_firstOf_10 ?_
      refine z_goto (pc := 11) (tgt := 15) X.1 dX4_firstOf_11 (by decide) ?_
      exact z_iret (pc := 15) X hW (Option.some.inj h) rfl dX4_firstOf_15
  · refine z_iload_n (pc := 4) X.1 hl 0 rfl rfl dX4_firstOf_4 ?_
    exact z_iret (pc := 5) X hW (Option.some.inj h) rfl dX4_firstOf_5
-- X4_person
theorem iX4_person_5 : ∀ w ∈ wsX20, w ∈ wsX4_person := by decide +kernel
theorem iX4_person_7 : ∀ w ∈ wsX40, w ∈ wsX4_person := by decide +kernel
theorem C4_person (l : Launch) {D : va_G} {cy : ClassId × ClassId} {ad : Nat → Nat} (N : Nat) (a0 : Int) (a1 : Int) (μ : mm) {res : (Int × mm)} (h : M4_person N a0 a1 μ = some res) : zI l yX4_person wsX4_person 3 D cy ad [.ref (ad 9), .int (iO a0), .int (iO a1)] μ res.1 res.2 := by
  refine zI.of RX4 rfl (by decide) rfl (Nat.le_of_ble_eq_true rfl) ?_
  intro p e s m args below meth c A X hW ls hl
  have hl : lv_has ls 5 [(0, .ref (ad 9)), (1, .int (iO a0)), (2, .int (iO a1))] := hl
  unfold M4_person at h
  refine z_aload_n (pc := 0) X.1 hl 0 rfl rfl dX4_person_0 ?_
  refine z_iload_n (pc := 1) X.1 hl 1 rfl rfl dX4_person_1 ?_
  obtain ⟨q1, eq1, h⟩ := z_bind h
  refine z_callV7I (pc := 2) (n := 1) (As := [.int (iO a0)]) (rest := []) X hW hl rfl (C4_unknown l N a0 μ eq1) gX4_person_X4_unknown rfl (by decide +kernel) rfl (by decide) rfl (Nat.le_of_ble_eq_true rfl) dX4_person_2 (fun H locs hW => ?_)
  refine z_iload_n (pc := 5) X.1 hl 2 rfl rfl dX4_person_5 ?_
  refine z_bipush (pc := 6) X.1 dX4_person_6 (by decide) ?_
  obtain ⟨q2, eq2, h⟩ := z_bind h
  refine z_callSI (pc := 8) (n := 2) (As := [.int (iO a1), .int (iO 7)]) (rest := [.int (iO q1)]) X hW hl (C4_other l N a1 7 μ eq2) gX4_person_X4_other rfl (by decide +kernel) rfl (by decide) rfl (Nat.le_of_ble_eq_true rfl) dX4_person_8 (fun H locs hW => ?_)
  refine z_iconst (pc := 11) X.1 dX4_person_11 ?_
  obtain ⟨q3, eq3, h⟩ := z_bind h
  refine z_callSI (pc := 12) (n := 3) (As := [.int (iO q1), .int (iO q2), .int (iO 0)]) (rest := []) X hW hl (C4_firstOf l N q1 q2 0 μ eq3) gX4_person_X4_firstOf rfl (by decide +kernel) rfl (by decide) rfl (Nat.le_of_ble_eq_true rfl) dX4_person_12 (fun H locs hW => ?_)
  refine z_istore_n (pc := 15) (i := 3) X.1 [(3, .int (iO q3)), (0, .ref (ad 9)), (1, .int (iO a0)), (2, .int (iO a1))] hl rfl rfl (by decide) rfl dX4_person_15 (fun ls hl => ?_)
  refine z_iload_n (pc := 16) X.1 hl 0 rfl rfl dX4_person_16 ?_
  obtain ⟨g4, h⟩ := z_guard h
  refine z_if_eq (pc := 17) (tgt := 26) X.1 dX4_person_17 (by decide) g4 h (fun c18 h => ?_) (fun c18 h => ?_)
  · refine z_aload_n (pc := 26) X.1 hl 1 rfl rfl dX4_person_26 ?_
    refine z_get7 (pc := 27) X.1 hW rfl iX4_person_7 0 (by decide) rfl (by decide +kernel) dX4_person_27 ?_
    refine z_iload_n (pc := 30) X.1 hl 2 rfl rfl dX4_person_30 ?_
    obtain ⟨q5, eq5, h⟩ := z_bind h
    obtain ⟨g6, h⟩ := z_guard h
    refine z_callV3R (pc := 31) (n := 1) (As := [.int (iO a0)]) (rest := []) X hW hl rfl (C1_at l N 10 a0 rfl μ eq5) gX4_person_X1_at rfl (by decide +kernel) rfl (by decide) rfl (Nat.le_of_ble_eq_true rfl) dX4_person_31 (fun H locs hW => ?_)
    refine z_astore (pc := 34) (i := 4) X.1 [(4, .ref (ad q5)), (3, .int (iO q3)), (0, .ref (ad 9)), (1, .int (iO a0)), (2, .int (iO a1))] hl rfl (by decide) rfl dX4_person_34 (fun ls hl => ?_)
    refine z_iload_n (pc := 36) X.1 hl 4 rfl rfl dX4_person_36 ?_
    obtain ⟨g7, h⟩ := z_guard h
    by_cases c8 : a1 = 0
    · rw [if_pos c8] at h
      refine z_tin (pc := 37) (v := 0) (tgt := 80) X.1 dX4_person_37 c8 (by decide) (by decide) rfl (by decide) ?_
      refine z_aload (pc := 80) X.1 hl 0 rfl dX4_person_80 ?_
      refine z_get5 (pc := 82) X.1 hW g6 iX4_person_5 0 (by decide) rfl (by decide +kernel) dX4_person_82 ?_
      exact z_iret (pc := 85) X hW (z_p1 h) (z_p2 h) dX4_person_85
    · rw [if_neg c8] at h
      by_cases c9 : a1 = 1
      · rw [if_pos c9] at h
        refine z_tin (pc := 37) (v := 1) (tgt := 86) X.1 dX4_person_37 c9 (by decide) (by decide) rfl (by decide) ?_
        refine z_aload (pc := 86) X.1 hl 0 rfl dX4_person_86 ?_
        refine z_get5 (pc := 88) X.1 hW g6 iX4_person_5 1 (by decide) rfl (by decide +kernel) dX4_person_88 ?_
        exact z_iret (pc := 91) X hW (z_p1 h) (z_p2 h) dX4_person_91
      · rw [if_neg c9] at h
        by_cases c10 : a1 = 2
        · rw [if_pos c10] at h
          refine z_tin (pc := 37) (v := 2) (tgt := 92) X.1 dX4_person_37 c10 (by decide) (by decide) rfl (by decide) ?_
          refine z_aload (pc := 92) X.1 hl 0 rfl dX4_person_92 ?_
          refine z_get5 (pc := 94) X.1 hW g6 iX4_person_5 2 (by decide) rfl (by decide +kernel) dX4_person_94 ?_
          exact z_iret (pc := 97) X hW (z_p1 h) (z_p2 h) dX4_person_97
        · rw [if_neg c10] at h
          by_cases c11 : a1 = 3
          · rw [if_pos c11] at h
            refine z_tin (pc := 37) (v := 3) (tgt := 98) X.1 dX4_person_37 c11 (by decide) (by decide) rfl (by decide) ?_
            refine z_aload (pc := 98) X.1 hl 0 rfl dX4_person_98 ?_
            refine z_get5 (pc := 100) X.1 hW g6 iX4_person_5 3 (by decide) rfl (by decide +kernel) dX4_person_100 ?_
            exact z_iret (pc := 103) X hW (z_p1 h) (z_p2 h) dX4_person_103
          · rw [if_neg c11] at h
            by_cases c12 : a1 = 4
            · rw [if_pos c12] at h
              refine z_tin (pc := 37) (v := 4) (tgt := 104) X.1 dX4_person_37 c12 (by decide) (by decide) rfl (by decide) ?_
              refine z_aload (pc := 104) X.1 hl 0 rfl dX4_person_104 ?_
              refine z_get5 (pc := 106) X.1 hW g6 iX4_person_5 4 (by decide) rfl (by decide +kernel) dX4_person_106 ?_
              exact z_iret (pc := 109) X hW (z_p1 h) (z_p2 h) dX4_person_109
            · rw [if_neg c12] at h
              by_cases c13 : a1 = 5
              · rw [if_pos c13] at h
                refine z_tin (pc := 37) (v := 5) (tgt := 110) X.1 dX4_person_37 c13 (by decide) (by decide) rfl (by decide) ?_
                refine z_aload (pc := 110) X.1 hl 0 rfl dX4_person_110 ?_
                refine z_get5 (pc := 112) X.1 hW g6 iX4_person_5 5 (by decide) rfl (by decide +kernel) dX4_person_112 ?_
                exact z_iret (pc := 115) X hW (z_p1 h) (z_p2 h) dX4_person_115
              · rw [if_neg c13] at h
                by_cases c15 : a1 = 6
                · rw [if_pos c15] at h
                  refine z_tin (pc := 37) (v := 6) (tgt := 116) X.1 dX4_person_37 c15 (by decide) (by decide) rfl (by decide) ?_
                  refine z_aload (pc := 116) X.1 hl 0 rfl dX4_person_116 ?_
                  obtain ⟨q14, eq14, h⟩ := z_bind h
                  refine z_callV5I (pc := 118) (n := 0) (As := []) (rest := []) X hW hl g6 (C2_needed l N q5 g6 μ eq14) gX4_person_X2_needed rfl (by decide +kernel) rfl (by decide) rfl (Nat.le_of_ble_eq_true rfl) dX4_person_118 (fun H locs hW => ?_)
                  exact z_iret (pc := 121) X hW (z_p1 h) (z_p2 h) dX4_person_121
                · rw [if_neg c15] at h
                  refine z_tout (pc := 37) (tgt := 122) X.1 dX4_person_37 g7 (by omega) (by decide) ?_
                  refine z_aload (pc := 122) X.1 hl 0 rfl dX4_person_122 ?_
                  obtain ⟨q16, eq16, h⟩ := z_bind h
                  refine z_callV5I (pc := 124) (n := 0) (As := []) (rest := []) X hW hl g6 (C2_lacking l N q5 g6 μ eq16) gX4_person_X2_lacking rfl (by decide +kernel) rfl (by decide) rfl (Nat.le_of_ble_eq_true rfl) dX4_person_124 (fun H locs hW => ?_)
                  exact z_iret (pc := 127) X hW (z_p1 h) (z_p2 h) dX4_person_127
  · refine z_aload_n (pc := 20) X.1 hl 1 rfl rfl dX4_person_20 ?_
    refine z_iload_n (pc := 21) X.1 hl 0 rfl rfl dX4_person_21 ?_
    obtain ⟨q17, eq17, h⟩ := z_bind h
    refine z_callV7I (pc := 22) (n := 1) (As := [.int (iO q3)]) (rest := []) X hW hl rfl (C4_refused l N q3 μ eq17) gX4_person_X4_refused rfl (by decide +kernel) rfl (by decide) rfl (Nat.le_of_ble_eq_true rfl) dX4_person_22 (fun H locs hW => ?_)
    exact z_iret (pc := 25) X hW (z_p1 h) (z_p2 h) dX4_person_25
-- X4_issues
theorem iX4_issues_3 : ∀ w ∈ wsX10, w ∈ wsX4_issues := by decide +kernel
theorem iX4_issues_7 : ∀ w ∈ wsX40, w ∈ wsX4_issues := by decide +kernel
theorem C4_issues (l : Launch) {D : va_G} {cy : ClassId × ClassId} {ad : Nat → Nat} (N : Nat) (a0 : Int) (a1 : Int) (μ : mm) {res : (Int × mm)} (h : M4_issues N a0 a1 μ = some res) : zI l yX4_issues wsX4_issues 2 D cy ad [.ref (ad 9), .int (iO a0), .int (iO a1)] μ res.1 res.2 := by
  refine zI.of RX4 rfl (by decide) rfl (Nat.le_of_ble_eq_true rfl) ?_
  intro p e s m args below meth c A X hW ls hl
  have hl : lv_has ls 4 [(0, .ref (ad 9)), (1, .int (iO a0)), (2, .int (iO a1))] := hl
  unfold M4_issues at h
  refine z_aload_n (pc := 0) X.1 hl 0 rfl rfl dX4_issues_0 ?_
  refine z_iload_n (pc := 1) X.1 hl 1 rfl rfl dX4_issues_1 ?_
  obtain ⟨q1, eq1, h⟩ := z_bind h
  refine z_callV7I (pc := 2) (n := 1) (As := [.int (iO a0)]) (rest := []) X hW hl rfl (C4_unknown l N a0 μ eq1) gX4_issues_X4_unknown rfl (by decide +kernel) rfl (by decide) rfl (Nat.le_of_ble_eq_true rfl) dX4_issues_2 (fun H locs hW => ?_)
  refine z_iload_n (pc := 5) X.1 hl 2 rfl rfl dX4_issues_5 ?_
  refine z_iconst (pc := 6) X.1 dX4_issues_6 ?_
  refine z_bipush (pc := 7) X.1 dX4_issues_7 (by decide) ?_
  obtain ⟨q2, eq2, h⟩ := z_bind h
  refine z_callSI (pc := 9) (n := 3) (As := [.int (iO a1), .int (iO 0), .int (iO 99)]) (rest := [.int (iO q1)]) X hW hl (C4_outside l N a1 0 99 μ eq2) gX4_issues_X4_outside rfl (by decide +kernel) rfl (by decide) rfl (Nat.le_of_ble_eq_true rfl) dX4_issues_9 (fun H locs hW => ?_)
  refine z_iconst (pc := 12) X.1 dX4_issues_12 ?_
  obtain ⟨q3, eq3, h⟩ := z_bind h
  refine z_callSI (pc := 13) (n := 3) (As := [.int (iO q1), .int (iO q2), .int (iO 0)]) (rest := []) X hW hl (C4_firstOf l N q1 q2 0 μ eq3) gX4_issues_X4_firstOf rfl (by decide +kernel) rfl (by decide) rfl (Nat.le_of_ble_eq_true rfl) dX4_issues_13 (fun H locs hW => ?_)
  refine z_istore_n (pc := 16) (i := 3) X.1 [(3, .int (iO q3)), (0, .ref (ad 9)), (1, .int (iO a0)), (2, .int (iO a1))] hl rfl rfl (by decide) rfl dX4_issues_16 (fun ls hl => ?_)
  refine z_iload_n (pc := 17) X.1 hl 0 rfl rfl dX4_issues_17 ?_
  obtain ⟨g4, h⟩ := z_guard h
  refine z_if_eq (pc := 18) (tgt := 27) X.1 dX4_issues_18 (by decide) g4 h (fun c10 h => ?_) (fun c10 h => ?_)
  · refine z_aload_n (pc := 27) X.1 hl 1 rfl rfl dX4_issues_27 ?_
    refine z_get7 (pc := 28) X.1 hW rfl iX4_issues_7 0 (by decide) rfl (by decide +kernel) dX4_issues_28 ?_
    refine z_iload_n (pc := 31) X.1 hl 2 rfl rfl dX4_issues_31 ?_
    refine z_iload_n (pc := 32) X.1 hl 3 rfl rfl dX4_issues_32 ?_
    obtain ⟨q5, eq5, h⟩ := z_bind h
    refine z_callV3I (pc := 33) (n := 2) (As := [.int (iO a0), .int (iO a1)]) (rest := []) X hW hl rfl (C1_issue l N 10 a0 a1 rfl μ eq5) gX4_issues_X1_issue rfl (by decide +kernel) rfl (by decide) rfl (Nat.le_of_ble_eq_true rfl) dX4_issues_33 (fun H locs hW => ?_)
    obtain ⟨g6, h⟩ := z_guard h
    refine z_if_ne (pc := 36) (tgt := 46) X.1 dX4_issues_36 (by decide) g6 h (fun c8 h => ?_) (fun c8 h => ?_)
    · refine z_aload_n (pc := 46) X.1 hl 1 rfl rfl dX4_issues_46 ?_
      refine z_get7 (pc := 47) X.1 hW rfl iX4_issues_7 0 (by decide) rfl (by decide +kernel) dX4_issues_47 ?_
      refine z_get3 (pc := 50) X.1 hW rfl iX4_issues_3 3 (by decide) rfl (by decide +kernel) dX4_issues_50 ?_
      exact z_iret (pc := 53) X hW (z_p1 h) (z_p2 h) dX4_issues_53
    · refine z_aload_n (pc := 39) X.1 hl 1 rfl rfl dX4_issues_39 ?_
      refine z_bipush (pc := 40) X.1 dX4_issues_40 (by decide) ?_
      obtain ⟨q7, eq7, h⟩ := z_bind h
      refine z_callV7I (pc := 42) (n := 1) (As := [.int (iO (-3))]) (rest := []) X hW hl rfl (C4_refused l N (-3) q5.2 eq7) gX4_issues_X4_refused rfl (by decide +kernel) rfl (by decide) rfl (Nat.le_of_ble_eq_true rfl) dX4_issues_42 (fun H locs hW => ?_)
      exact z_iret (pc := 45) X hW (z_p1 h) (z_p2 h) dX4_issues_45
  · refine z_aload_n (pc := 21) X.1 hl 1 rfl rfl dX4_issues_21 ?_
    refine z_iload_n (pc := 22) X.1 hl 0 rfl rfl dX4_issues_22 ?_
    obtain ⟨q9, eq9, h⟩ := z_bind h
    refine z_callV7I (pc := 23) (n := 1) (As := [.int (iO q3)]) (rest := []) X hW hl rfl (C4_refused l N q3 μ eq9) gX4_issues_X4_refused rfl (by decide +kernel) rfl (by decide) rfl (Nat.le_of_ble_eq_true rfl) dX4_issues_23 (fun H locs hW => ?_)
    exact z_iret (pc := 26) X hW (z_p1 h) (z_p2 h) dX4_issues_26
-- X4_returns
theorem iX4_returns_3 : ∀ w ∈ wsX10, w ∈ wsX4_returns := by decide +kernel
theorem iX4_returns_5 : ∀ w ∈ wsX20, w ∈ wsX4_returns := by decide +kernel
theorem iX4_returns_7 : ∀ w ∈ wsX40, w ∈ wsX4_returns := by decide +kernel
section
variable {p : Program} {l : Launch} {e : Env} {s : State} {m : MethodId} {args : Array Value} {below : List Frame} {meth : Method} {c : Code} {D : va_G} {cy : ClassId × ClassId} {ad : Nat → Nat} {A : Nat → Prop} {res : (Int × mm)}
theorem CJ4_returns_27 (X : zX p s m args meth c cX4_returns RX4 wsX4_returns 3 D cy ad (some .int) A) (N : Nat) : ∀ (x1 : Int) (x2 : Int) (μ : mm), J4_returns_27 N x1 x2 μ = some res → ∀ (H : Heap) (locs : List Loc) (ls : Array Slot), zW D cy ad A s.heap μ H locs → lv_has ls 3 [(0, .ref (ad 9)), (1, .int (iO x1)), (2, .int (iO x2))] → W p l e (rmD 3) s m args below meth c H locs 0 0 (MQ below (zQi D cy ad A res.1 res.2) args s 0 0 A) (F0 m 27 ls []) := by
  intro x1 x2 μ h H locs ls hW hl
  rw [J4_returns_27] at h
  refine z_iload_n (pc := 27) X.1 hl 2 rfl rfl dX4_returns_27 ?_
  obtain ⟨g3, h⟩ := z_guard h
  refine z_if_eq (pc := 28) (tgt := 37) X.1 dX4_returns_28 (by decide) g3 h (fun c6 h => ?_) (fun c6 h => ?_)
  · refine z_aload_n (pc := 37) X.1 hl 0 rfl rfl dX4_returns_37 ?_
    refine z_get7 (pc := 38) X.1 hW rfl iX4_returns_7 0 (by decide) rfl (by decide +kernel) dX4_returns_38 ?_
    refine z_iload_n (pc := 41) X.1 hl 1 rfl rfl dX4_returns_41 ?_
    obtain ⟨q4, eq4, h⟩ := z_bind h
    refine z_callV3I (pc := 42) (n := 1) (As := [.int (iO x1)]) (rest := []) X hW hl rfl (C1_handIn l N 10 x1 rfl μ eq4) gX4_returns_X1_handIn rfl (by decide +kernel) rfl (by decide) rfl (Nat.le_of_ble_eq_true rfl) dX4_returns_42 (fun H locs hW => ?_)
    refine z_pop (pc := 45) X.1 dX4_returns_45 rfl ?_
    refine z_aload_n (pc := 46) X.1 hl 0 rfl rfl dX4_returns_46 ?_
    refine z_get7 (pc := 47) X.1 hW rfl iX4_returns_7 0 (by decide) rfl (by decide +kernel) dX4_returns_47 ?_
    refine z_get3 (pc := 50) X.1 hW rfl iX4_returns_3 3 (by decide) rfl (by decide +kernel) dX4_returns_50 ?_
    exact z_iret (pc := 53) X hW (z_p1 h) (z_p2 h) dX4_returns_53
  · refine z_aload_n (pc := 31) X.1 hl 0 rfl rfl dX4_returns_31 ?_
    refine z_iload_n (pc := 32) X.1 hl 2 rfl rfl dX4_returns_32 ?_
    obtain ⟨q5, eq5, h⟩ := z_bind h
    refine z_callV7I (pc := 33) (n := 1) (As := [.int (iO x2)]) (rest := []) X hW hl rfl (C4_refused l N x2 μ eq5) gX4_returns_X4_refused rfl (by decide +kernel) rfl (by decide) rfl (Nat.le_of_ble_eq_true rfl) dX4_returns_33 (fun H locs hW => ?_)
    exact z_iret (pc := 36) X hW (z_p1 h) (z_p2 h) dX4_returns_36
end
theorem C4_returns (l : Launch) {D : va_G} {cy : ClassId × ClassId} {ad : Nat → Nat} (N : Nat) (a0 : Int) (μ : mm) {res : (Int × mm)} (h : M4_returns N a0 μ = some res) : zI l yX4_returns wsX4_returns 3 D cy ad [.ref (ad 9), .int (iO a0)] μ res.1 res.2 := by
  refine zI.of RX4 rfl (by decide) rfl (Nat.le_of_ble_eq_true rfl) ?_
  intro p e s m args below meth c A X hW ls hl
  have hl : lv_has ls 3 [(0, .ref (ad 9)), (1, .int (iO a0))] := hl
  unfold M4_returns at h
  refine z_aload_n (pc := 0) X.1 hl 0 rfl rfl dX4_returns_0 ?_
  refine z_iload_n (pc := 1) X.1 hl 1 rfl rfl dX4_returns_1 ?_
  obtain ⟨q1, eq1, h⟩ := z_bind h
  refine z_callV7I (pc := 2) (n := 1) (As := [.int (iO a0)]) (rest := []) X hW hl rfl (C4_unknown l N a0 μ eq1) gX4_returns_X4_unknown rfl (by decide +kernel) rfl (by decide) rfl (Nat.le_of_ble_eq_true rfl) dX4_returns_2 (fun H locs hW => ?_)
  refine z_istore_n (pc := 5) (i := 2) X.1 [(2, .int (iO q1)), (0, .ref (ad 9)), (1, .int (iO a0))] hl rfl rfl (by decide) rfl dX4_returns_5 (fun ls hl => ?_)
  refine z_iload_n (pc := 6) X.1 hl 0 rfl rfl dX4_returns_6 ?_
  obtain ⟨g2, h⟩ := z_guard h
  refine z_if_ne (pc := 7) (tgt := 27) X.1 dX4_returns_7 (by decide) g2 h (fun c11 h => ?_) (fun c11 h => ?_)
  · exact CJ4_returns_27 X N a0 q1 μ h _ _ ls hW (lv_sub hl [1, 2, 0] rfl)
  · refine z_aload_n (pc := 10) X.1 hl 1 rfl rfl dX4_returns_10 ?_
    refine z_get7 (pc := 11) X.1 hW rfl iX4_returns_7 0 (by decide) rfl (by decide +kernel) dX4_returns_11 ?_
    refine z_iload_n (pc := 14) X.1 hl 2 rfl rfl dX4_returns_14 ?_
    obtain ⟨q7, eq7, h⟩ := z_bind h
    obtain ⟨g8, h⟩ := z_guard h
    refine z_callV3R (pc := 15) (n := 1) (As := [.int (iO a0)]) (rest := []) X hW hl rfl (C1_at l N 10 a0 rfl μ eq7) gX4_returns_X1_at rfl (by decide +kernel) rfl (by decide) rfl (Nat.le_of_ble_eq_true rfl) dX4_returns_15 (fun H locs hW => ?_)
    refine z_get5 (pc := 18) X.1 hW g8 iX4_returns_5 2 (by decide) rfl (by decide +kernel) dX4_returns_18 ?_
    obtain ⟨g9, h⟩ := z_guard h
    refine z_if_ne (pc := 21) (tgt := 27) X.1 dX4_returns_21 (by decide) g9 h (fun c10 h => ?_) (fun c10 h => ?_)
    · exact CJ4_returns_27 X N a0 q1 μ h _ _ ls hW (lv_sub hl [1, 2, 0] rfl)
    · refine z_bipush (pc := 24) X.1 dX4_returns_24 (by decide) ?_
      refine z_istore_n (pc := 26) (i := 2) X.1 [(2, .int (iO (-3))), (0, .ref (ad 9)), (1, .int (iO a0))] hl rfl rfl (by decide) rfl dX4_returns_26 (fun ls hl => ?_)
      exact CJ4_returns_27 X N a0 (-3) μ h _ _ ls hW (lv_sub hl [1, 2, 0] rfl)
-- X4_due
theorem iX4_due_5 : ∀ w ∈ wsX20, w ∈ wsX4_due := by decide +kernel
theorem iX4_due_7 : ∀ w ∈ wsX40, w ∈ wsX4_due := by decide +kernel
theorem C4_due (l : Launch) {D : va_G} {cy : ClassId × ClassId} {ad : Nat → Nat} (N : Nat) (a0 : Int) (a1 : Int) (μ : mm) {res : (Int × mm)} (h : M4_due N a0 a1 μ = some res) : zI l yX4_due wsX4_due 2 D cy ad [.ref (ad 9), .int (iO a0), .int (iO a1)] μ res.1 res.2 := by
  refine zI.of RX4 rfl (by decide) rfl (Nat.le_of_ble_eq_true rfl) ?_
  intro p e s m args below meth c A X hW ls hl
  have hl : lv_has ls 6 [(0, .ref (ad 9)), (1, .int (iO a0)), (2, .int (iO a1))] := hl
  unfold M4_due at h
  refine z_aload_n (pc := 0) X.1 hl 0 rfl rfl dX4_due_0 ?_
  refine z_iload_n (pc := 1) X.1 hl 1 rfl rfl dX4_due_1 ?_
  obtain ⟨q1, eq1, h⟩ := z_bind h
  refine z_callV7I (pc := 2) (n := 1) (As := [.int (iO a0)]) (rest := []) X hW hl rfl (C4_unknown l N a0 μ eq1) gX4_due_X4_unknown rfl (by decide +kernel) rfl (by decide) rfl (Nat.le_of_ble_eq_true rfl) dX4_due_2 (fun H locs hW => ?_)
  refine z_iload_n (pc := 5) X.1 hl 2 rfl rfl dX4_due_5 ?_
  refine z_iconst (pc := 6) X.1 dX4_due_6 ?_
  refine z_bipush (pc := 7) X.1 dX4_due_7 (by decide) ?_
  obtain ⟨q2, eq2, h⟩ := z_bind h
  refine z_callSI (pc := 9) (n := 3) (As := [.int (iO a1), .int (iO 0), .int (iO 60)]) (rest := [.int (iO q1)]) X hW hl (C4_outside l N a1 0 60 μ eq2) gX4_due_X4_outside rfl (by decide +kernel) rfl (by decide) rfl (Nat.le_of_ble_eq_true rfl) dX4_due_9 (fun H locs hW => ?_)
  refine z_iconst (pc := 12) X.1 dX4_due_12 ?_
  obtain ⟨q3, eq3, h⟩ := z_bind h
  refine z_callSI (pc := 13) (n := 3) (As := [.int (iO q1), .int (iO q2), .int (iO 0)]) (rest := []) X hW hl (C4_firstOf l N q1 q2 0 μ eq3) gX4_due_X4_firstOf rfl (by decide +kernel) rfl (by decide) rfl (Nat.le_of_ble_eq_true rfl) dX4_due_13 (fun H locs hW => ?_)
  refine z_istore_n (pc := 16) (i := 3) X.1 [(3, .int (iO q3)), (0, .ref (ad 9)), (1, .int (iO a0)), (2, .int (iO a1))] hl rfl rfl (by decide) rfl dX4_due_16 (fun ls hl => ?_)
  refine z_iload_n (pc := 17) X.1 hl 0 rfl rfl dX4_due_17 ?_
  obtain ⟨g4, h⟩ := z_guard h
  refine z_if_eq (pc := 18) (tgt := 27) X.1 dX4_due_18 (by decide) g4 h (fun c10 h => ?_) (fun c10 h => ?_)
  · refine z_aload_n (pc := 27) X.1 hl 1 rfl rfl dX4_due_27 ?_
    refine z_get7 (pc := 28) X.1 hW rfl iX4_due_7 0 (by decide) rfl (by decide +kernel) dX4_due_28 ?_
    refine z_iload_n (pc := 31) X.1 hl 2 rfl rfl dX4_due_31 ?_
    obtain ⟨q5, eq5, h⟩ := z_bind h
    obtain ⟨g6, h⟩ := z_guard h
    refine z_callV3R (pc := 32) (n := 1) (As := [.int (iO a0)]) (rest := []) X hW hl rfl (C1_at l N 10 a0 rfl μ eq5) gX4_due_X1_at rfl (by decide +kernel) rfl (by decide) rfl (Nat.le_of_ble_eq_true rfl) dX4_due_32 (fun H locs hW => ?_)
    refine z_astore (pc := 35) (i := 4) X.1 [(4, .ref (ad q5)), (3, .int (iO q3)), (0, .ref (ad 9)), (1, .int (iO a0)), (2, .int (iO a1))] hl rfl (by decide) rfl dX4_due_35 (fun ls hl => ?_)
    refine z_aload (pc := 37) X.1 hl 0 rfl dX4_due_37 ?_
    refine z_get5 (pc := 39) X.1 hW g6 iX4_due_5 3 (by decide) rfl (by decide +kernel) dX4_due_39 ?_
    obtain ⟨w7, ew7, h⟩ := z_bnd h
    refine z_istore (pc := 42) (i := 5) X.1 [(5, .int (iO w7)), (4, .ref (ad q5)), (3, .int (iO q3)), (0, .ref (ad 9)), (1, .int (iO a0)), (2, .int (iO a1))] hl ew7 (by decide) rfl dX4_due_42 (fun ls hl => ?_)
    refine z_aload (pc := 44) X.1 hl 1 rfl dX4_due_44 ?_
    refine z_iload_n (pc := 46) X.1 hl 5 rfl rfl dX4_due_46 ?_
    obtain ⟨μ8, eμ8, h⟩ := z_bnd h
    refine z_put5_3 (pc := 47) X.1 hW g6 iX4_due_5 (by decide +kernel) dX4_due_47 (fun H locs hW => ?_)
    rw [← eμ8] at hW
    refine z_iload (pc := 50) X.1 hl 0 rfl dX4_due_50 ?_
    exact z_iret (pc := 52) X hW (z_p1 h) (z_p2 h) dX4_due_52
  · refine z_aload_n (pc := 21) X.1 hl 1 rfl rfl dX4_due_21 ?_
    refine z_iload_n (pc := 22) X.1 hl 0 rfl rfl dX4_due_22 ?_
    obtain ⟨q9, eq9, h⟩ := z_bind h
    refine z_callV7I (pc := 23) (n := 1) (As := [.int (iO q3)]) (rest := []) X hW hl rfl (C4_refused l N q3 μ eq9) gX4_due_X4_refused rfl (by decide +kernel) rfl (by decide) rfl (Nat.le_of_ble_eq_true rfl) dX4_due_23 (fun H locs hW => ?_)
    exact z_iret (pc := 26) X hW (z_p1 h) (z_p2 h) dX4_due_26
-- X4_fills
theorem iX4_fills_3 : ∀ w ∈ wsX10, w ∈ wsX4_fills := by decide +kernel
theorem iX4_fills_7 : ∀ w ∈ wsX40, w ∈ wsX4_fills := by decide +kernel
theorem C4_fills (l : Launch) {D : va_G} {cy : ClassId × ClassId} {ad : Nat → Nat} (N : Nat) (a0 : Int) (μ : mm) {res : (Int × mm)} (h : M4_fills N a0 μ = some res) : zI l yX4_fills wsX4_fills 1 D cy ad [.ref (ad 9), .int (iO a0)] μ res.1 res.2 := by
  refine zI.of RX4 rfl (by decide) rfl (Nat.le_of_ble_eq_true rfl) ?_
  intro p e s m args below meth c A X hW ls hl
  have hl : lv_has ls 3 [(0, .ref (ad 9)), (1, .int (iO a0))] := hl
  unfold M4_fills at h
  refine z_iload_n (pc := 0) X.1 hl 1 rfl rfl dX4_fills_0 ?_
  refine z_iconst (pc := 1) X.1 dX4_fills_1 ?_
  refine z_bipush (pc := 2) X.1 dX4_fills_2 (by decide) ?_
  obtain ⟨q1, eq1, h⟩ := z_bind h
  refine z_callSI (pc := 4) (n := 3) (As := [.int (iO a0), .int (iO 0), .int (iO 99)]) (rest := []) X hW hl (C4_outside l N a0 0 99 μ eq1) gX4_fills_X4_outside rfl (by decide +kernel) rfl (by decide) rfl (Nat.le_of_ble_eq_true rfl) dX4_fills_4 (fun H locs hW => ?_)
  refine z_istore_n (pc := 7) (i := 2) X.1 [(2, .int (iO q1)), (0, .ref (ad 9)), (1, .int (iO a0))] hl rfl rfl (by decide) rfl dX4_fills_7 (fun ls hl => ?_)
  refine z_iload_n (pc := 8) X.1 hl 0 rfl rfl dX4_fills_8 ?_
  obtain ⟨g2, h⟩ := z_guard h
  refine z_if_eq (pc := 9) (tgt := 18) X.1 dX4_fills_9 (by decide) g2 h (fun c8 h => ?_) (fun c8 h => ?_)
  · refine z_aload_n (pc := 18) X.1 hl 1 rfl rfl dX4_fills_18 ?_
    refine z_get7 (pc := 19) X.1 hW rfl iX4_fills_7 0 (by decide) rfl (by decide +kernel) dX4_fills_19 ?_
    refine z_iload_n (pc := 22) X.1 hl 2 rfl rfl dX4_fills_22 ?_
    obtain ⟨q3, eq3, h⟩ := z_bind h
    refine z_callV3I (pc := 23) (n := 1) (As := [.int (iO a0)]) (rest := []) X hW hl rfl (C1_fill l N 10 a0 rfl μ eq3) gX4_fills_X1_fill rfl (by decide +kernel) rfl (by decide) rfl (Nat.le_of_ble_eq_true rfl) dX4_fills_23 (fun H locs hW => ?_)
    obtain ⟨g4, h⟩ := z_guard h
    refine z_if_ne (pc := 26) (tgt := 36) X.1 dX4_fills_26 (by decide) g4 h (fun c6 h => ?_) (fun c6 h => ?_)
    · refine z_aload_n (pc := 36) X.1 hl 1 rfl rfl dX4_fills_36 ?_
      refine z_get7 (pc := 37) X.1 hW rfl iX4_fills_7 0 (by decide) rfl (by decide +kernel) dX4_fills_37 ?_
      refine z_get3 (pc := 40) X.1 hW rfl iX4_fills_3 3 (by decide) rfl (by decide +kernel) dX4_fills_40 ?_
      exact z_iret (pc := 43) X hW (z_p1 h) (z_p2 h) dX4_fills_43
    · refine z_aload_n (pc := 29) X.1 hl 1 rfl rfl dX4_fills_29 ?_
      refine z_bipush (pc := 30) X.1 dX4_fills_30 (by decide) ?_
      obtain ⟨q5, eq5, h⟩ := z_bind h
      refine z_callV7I (pc := 32) (n := 1) (As := [.int (iO (-6))]) (rest := []) X hW hl rfl (C4_refused l N (-6) q3.2 eq5) gX4_fills_X4_refused rfl (by decide +kernel) rfl (by decide) rfl (Nat.le_of_ble_eq_true rfl) dX4_fills_32 (fun H locs hW => ?_)
      exact z_iret (pc := 35) X hW (z_p1 h) (z_p2 h) dX4_fills_35
  · refine z_aload_n (pc := 12) X.1 hl 1 rfl rfl dX4_fills_12 ?_
    refine z_iload_n (pc := 13) X.1 hl 0 rfl rfl dX4_fills_13 ?_
    obtain ⟨q7, eq7, h⟩ := z_bind h
    refine z_callV7I (pc := 14) (n := 1) (As := [.int (iO q1)]) (rest := []) X hW hl rfl (C4_refused l N q1 μ eq7) gX4_fills_X4_refused rfl (by decide +kernel) rfl (by decide) rfl (Nat.le_of_ble_eq_true rfl) dX4_fills_14 (fun H locs hW => ?_)
    exact z_iret (pc := 17) X hW (z_p1 h) (z_p2 h) dX4_fills_17
-- X4_turn
theorem iX4_turn_5 : ∀ w ∈ wsX20, w ∈ wsX4_turn := by decide +kernel
theorem iX4_turn_7 : ∀ w ∈ wsX40, w ∈ wsX4_turn := by decide +kernel
theorem C4_turn (l : Launch) {D : va_G} {cy : ClassId × ClassId} {ad : Nat → Nat} (N : Nat) (a0 : Int) (a1 : Int) (a2 : Int) (μ : mm) {res : (Int × mm)} (h : M4_turn N a0 a1 a2 μ = some res) : zI l yX4_turn wsX4_turn 2 D cy ad [.ref (ad 9), .int (iO a0), .int (iO a1), .int (iO a2)] μ res.1 res.2 := by
  refine zI.of RX4 rfl (by decide) rfl (Nat.le_of_ble_eq_true rfl) ?_
  intro p e s m args below meth c A X hW ls hl
  have hl : lv_has ls 7 [(0, .ref (ad 9)), (1, .int (iO a0)), (2, .int (iO a1)), (3, .int (iO a2))] := hl
  unfold M4_turn at h
  refine z_aload_n (pc := 0) X.1 hl 0 rfl rfl dX4_turn_0 ?_
  refine z_iload_n (pc := 1) X.1 hl 1 rfl rfl dX4_turn_1 ?_
  obtain ⟨q1, eq1, h⟩ := z_bind h
  refine z_callV7I (pc := 2) (n := 1) (As := [.int (iO a0)]) (rest := []) X hW hl rfl (C4_unknown l N a0 μ eq1) gX4_turn_X4_unknown rfl (by decide +kernel) rfl (by decide) rfl (Nat.le_of_ble_eq_true rfl) dX4_turn_2 (fun H locs hW => ?_)
  refine z_iload_n (pc := 5) X.1 hl 2 rfl rfl dX4_turn_5 ?_
  refine z_iconst (pc := 6) X.1 dX4_turn_6 ?_
  obtain ⟨q2, eq2, h⟩ := z_bind h
  refine z_callSI (pc := 7) (n := 2) (As := [.int (iO a1), .int (iO 5)]) (rest := [.int (iO q1)]) X hW hl (C4_other l N a1 5 μ eq2) gX4_turn_X4_other rfl (by decide +kernel) rfl (by decide) rfl (Nat.le_of_ble_eq_true rfl) dX4_turn_7 (fun H locs hW => ?_)
  refine z_iload_n (pc := 10) X.1 hl 3 rfl rfl dX4_turn_10 ?_
  refine z_iconst (pc := 11) X.1 dX4_turn_11 ?_
  refine z_bipush (pc := 12) X.1 dX4_turn_12 (by decide) ?_
  obtain ⟨q3, eq3, h⟩ := z_bind h
  refine z_callSI (pc := 14) (n := 3) (As := [.int (iO a2), .int (iO 0), .int (iO 9)]) (rest := [.int (iO q2), .int (iO q1)]) X hW hl (C4_outside l N a2 0 9 μ eq3) gX4_turn_X4_outside rfl (by decide +kernel) rfl (by decide) rfl (Nat.le_of_ble_eq_true rfl) dX4_turn_14 (fun H locs hW => ?_)
  obtain ⟨q4, eq4, h⟩ := z_bind h
  refine z_callSI (pc := 17) (n := 3) (As := [.int (iO q1), .int (iO q2), .int (iO q3)]) (rest := []) X hW hl (C4_firstOf l N q1 q2 q3 μ eq4) gX4_turn_X4_firstOf rfl (by decide +kernel) rfl (by decide) rfl (Nat.le_of_ble_eq_true rfl) dX4_turn_17 (fun H locs hW => ?_)
  refine z_istore (pc := 20) (i := 4) X.1 [(4, .int (iO q4)), (0, .ref (ad 9)), (1, .int (iO a0)), (2, .int (iO a1)), (3, .int (iO a2))] hl rfl (by decide) rfl dX4_turn_20 (fun ls hl => ?_)
  refine z_iload (pc := 22) X.1 hl 0 rfl dX4_turn_22 ?_
  obtain ⟨g5, h⟩ := z_guard h
  refine z_if_eq (pc := 24) (tgt := 34) X.1 dX4_turn_24 (by decide) g5 h (fun c12 h => ?_) (fun c12 h => ?_)
  · refine z_aload_n (pc := 34) X.1 hl 1 rfl rfl dX4_turn_34 ?_
    refine z_get7 (pc := 35) X.1 hW rfl iX4_turn_7 0 (by decide) rfl (by decide +kernel) dX4_turn_35 ?_
    refine z_iload_n (pc := 38) X.1 hl 2 rfl rfl dX4_turn_38 ?_
    obtain ⟨q6, eq6, h⟩ := z_bind h
    obtain ⟨g7, h⟩ := z_guard h
    refine z_callV3R (pc := 39) (n := 1) (As := [.int (iO a0)]) (rest := []) X hW hl rfl (C1_at l N 10 a0 rfl μ eq6) gX4_turn_X1_at rfl (by decide +kernel) rfl (by decide) rfl (Nat.le_of_ble_eq_true rfl) dX4_turn_39 (fun H locs hW => ?_)
    refine z_astore (pc := 42) (i := 5) X.1 [(5, .ref (ad q6)), (4, .int (iO q4)), (0, .ref (ad 9)), (1, .int (iO a0)), (2, .int (iO a1)), (3, .int (iO a2))] hl rfl (by decide) rfl dX4_turn_42 (fun ls hl => ?_)
    refine z_bipush (pc := 44) X.1 dX4_turn_44 (by decide) ?_
    refine z_aload (pc := 46) X.1 hl 0 rfl dX4_turn_46 ?_
    refine z_get5 (pc := 48) X.1 hW g7 iX4_turn_5 0 (by decide) rfl (by decide +kernel) dX4_turn_48 ?_
    refine z_imul (pc := 51) X.1 dX4_turn_51 ?_
    refine z_aload (pc := 52) X.1 hl 0 rfl dX4_turn_52 ?_
    refine z_get5 (pc := 54) X.1 hW g7 iX4_turn_5 1 (by decide) rfl (by decide +kernel) dX4_turn_54 ?_
    refine z_iadd (pc := 57) X.1 dX4_turn_57 ?_
    obtain ⟨w8, ew8, h⟩ := z_bnd h
    refine z_istore (pc := 58) (i := 6) X.1 [(6, .int (iO w8)), (5, .ref (ad q6)), (4, .int (iO q4)), (0, .ref (ad 9)), (1, .int (iO a0)), (2, .int (iO a1)), (3, .int (iO a2))] hl ew8 (by decide) rfl dX4_turn_58 (fun ls hl => ?_)
    refine z_aload (pc := 60) X.1 hl 1 rfl dX4_turn_60 ?_
    refine z_iload_n (pc := 62) X.1 hl 5 rfl rfl dX4_turn_62 ?_
    obtain ⟨μ9, eμ9, h⟩ := z_bnd h
    refine z_put5_0 (pc := 63) X.1 hW g7 iX4_turn_5 (by decide +kernel) dX4_turn_63 (fun H locs hW => ?_)
    rw [← eμ9] at hW
    refine z_aload (pc := 66) X.1 hl 1 rfl dX4_turn_66 ?_
    refine z_iload_n (pc := 68) X.1 hl 6 rfl rfl dX4_turn_68 ?_
    obtain ⟨μ10, eμ10, h⟩ := z_bnd h
    refine z_put5_1 (pc := 69) X.1 hW g7 iX4_turn_5 (by decide +kernel) dX4_turn_69 (fun H locs hW => ?_)
    rw [← eμ10] at hW
    refine z_iload (pc := 72) X.1 hl 0 rfl dX4_turn_72 ?_
    exact z_iret (pc := 74) X hW (z_p1 h) (z_p2 h) dX4_turn_74
  · refine z_aload_n (pc := 27) X.1 hl 1 rfl rfl dX4_turn_27 ?_
    refine z_iload (pc := 28) X.1 hl 0 rfl dX4_turn_28 ?_
    obtain ⟨q11, eq11, h⟩ := z_bind h
    refine z_callV7I (pc := 30) (n := 1) (As := [.int (iO q4)]) (rest := []) X hW hl rfl (C4_refused l N q4 μ eq11) gX4_turn_X4_refused rfl (by decide +kernel) rfl (by decide) rfl (Nat.le_of_ble_eq_true rfl) dX4_turn_30 (fun H locs hW => ?_)
    exact z_iret (pc := 33) X hW (z_p1 h) (z_p2 h) dX4_turn_33
