-- X5_adds
theorem iX5_adds_1 : ∀ w ∈ wsX50, w ∈ wsX5_adds := by decide +kernel
section
variable {p : Program} {l : Launch} {e : Env} {s : State} {m : MethodId} {args : Array Value} {below : List Frame} {meth : Method} {c : Code} {D : va_G} {cy : ClassId × ClassId} {ad : Nat → Nat} {A : Nat → Prop} {res : (Int × mm)}
theorem CL5_adds_30 (X : zX p s m args meth c cX5_adds RX5 wsX5_adds 6 D cy ad (some .boolean) A) (N : Nat) : ∀ (k : Nat) (x1 : Int) (x2 : Int) (x3 : Int) (x4 : Int) (x5 : Int) (μ : mm), L5_adds_30 N k x1 x2 x3 x4 x5 μ = some res → ∀ (H : Heap) (locs : List Loc) (ls : Array Slot), zW D cy ad A s.heap μ H locs → lv_has ls 6 [(0, .ref (ad 0)), (1, .int (iO x1)), (2, .int (iO x2)), (3, .int (iO x3)), (4, .int (iO x4)), (5, .int (iO x5))] → W p l e (rmD 1) s m args below meth c H locs 0 0 (MQ below (zQi D cy ad A res.1 res.2) args s 0 0 A) (F0 m 30 ls []) := by
  intro k
  induction k with
  | zero =>
    intro x1 x2 x3 x4 x5 μ h H locs ls hW hl
    exact absurd h (by rw [L5_adds_30]; exact fun z => by cases z)
  | succ k ih =>
    intro x1 x2 x3 x4 x5 μ h H locs ls hW hl
    rw [L5_adds_30] at h
    refine z_iload (pc := 30) X.1 hl 5 rfl dX5_adds_30 ?_
    refine z_bipush (pc := 32) X.1 dX5_adds_32 (by decide) ?_
    obtain ⟨g4, h⟩ := z_guard h
    refine z_icmp_ge (pc := 34) (tgt := 56) X.1 dX5_adds_34 (by decide) ⟨g4, (by decide)⟩ h (fun c14 h => ?_) (fun c14 h => ?_)
    · refine z_aload_n (pc := 56) X.1 hl 0 rfl rfl dX5_adds_56 ?_
      refine z_get1 (pc := 57) X.1 hW rfl iX5_adds_1 0 (by decide) rfl (by decide +kernel) dX5_adds_57 ?_
      refine z_iload (pc := 60) X.1 hl 4 rfl dX5_adds_60 ?_
      refine z_iconst (pc := 62) X.1 dX5_adds_62 ?_
      refine z_callSI (pc := 63) (n := 2) (As := [.int (iO x4), .int (iO 0)]) (rest := [.ref (ad 1)]) X hW hl (C5_of l N x4 0 μ) gX5_adds_X5_of rfl (by decide +kernel) rfl (by decide) rfl (Nat.le_of_ble_eq_true rfl) dX5_adds_63 (fun H locs hW => ?_)
      refine z_iload_n (pc := 66) X.1 hl 1 rfl rfl dX5_adds_66 ?_
      obtain ⟨g5, h⟩ := z_guard h
      obtain ⟨μ6, eμ6, h⟩ := z_bnd h
      refine z_iast (pc := 67) X.1 hW rfl ⟨g5.1, g5.2⟩ dX5_adds_67 (fun H locs hW => ?_)
      replace hW : zW D cy ad A s.heap μ6 H locs := by rw [eμ6]; exact hW
      refine z_aload_n (pc := 68) X.1 hl 0 rfl rfl dX5_adds_68 ?_
      refine z_get1 (pc := 69) X.1 hW rfl iX5_adds_1 0 (by decide) rfl (by decide +kernel) dX5_adds_69 ?_
      refine z_iload (pc := 72) X.1 hl 4 rfl dX5_adds_72 ?_
      refine z_iconst (pc := 74) X.1 dX5_adds_74 ?_
      refine z_callSI (pc := 75) (n := 2) (As := [.int (iO x4), .int (iO 1)]) (rest := [.ref (ad 1)]) X hW hl (C5_of l N x4 1 μ6) gX5_adds_X5_of rfl (by decide +kernel) rfl (by decide) rfl (Nat.le_of_ble_eq_true rfl) dX5_adds_75 (fun H locs hW => ?_)
      refine z_iload_n (pc := 78) X.1 hl 2 rfl rfl dX5_adds_78 ?_
      obtain ⟨g7, h⟩ := z_guard h
      obtain ⟨μ8, eμ8, h⟩ := z_bnd h
      refine z_iast (pc := 79) X.1 hW rfl ⟨g7.1, g7.2⟩ dX5_adds_79 (fun H locs hW => ?_)
      replace hW : zW D cy ad A s.heap μ8 H locs := by rw [eμ8]; exact hW
      refine z_aload_n (pc := 80) X.1 hl 0 rfl rfl dX5_adds_80 ?_
      refine z_get1 (pc := 81) X.1 hW rfl iX5_adds_1 0 (by decide) rfl (by decide +kernel) dX5_adds_81 ?_
      refine z_iload (pc := 84) X.1 hl 4 rfl dX5_adds_84 ?_
      refine z_iconst (pc := 86) X.1 dX5_adds_86 ?_
      refine z_callSI (pc := 87) (n := 2) (As := [.int (iO x4), .int (iO 3)]) (rest := [.ref (ad 1)]) X hW hl (C5_of l N x4 3 μ8) gX5_adds_X5_of rfl (by decide +kernel) rfl (by decide) rfl (Nat.le_of_ble_eq_true rfl) dX5_adds_87 (fun H locs hW => ?_)
      refine z_iload_n (pc := 90) X.1 hl 3 rfl rfl dX5_adds_90 ?_
      obtain ⟨g9, h⟩ := z_guard h
      obtain ⟨μ10, eμ10, h⟩ := z_bnd h
      refine z_iast (pc := 91) X.1 hW rfl ⟨g9.1, g9.2⟩ dX5_adds_91 (fun H locs hW => ?_)
      replace hW : zW D cy ad A s.heap μ10 H locs := by rw [eμ10]; exact hW
      refine z_aload_n (pc := 92) X.1 hl 0 rfl rfl dX5_adds_92 ?_
      refine z_get1 (pc := 93) X.1 hW rfl iX5_adds_1 0 (by decide) rfl (by decide +kernel) dX5_adds_93 ?_
      refine z_iconst (pc := 96) X.1 dX5_adds_96 ?_
      refine z_dup2 (pc := 97) X.1 dX5_adds_97 rfl rfl ?_
      refine z_iald (pc := 98) X.1 hW rfl ⟨(by decide), (by decide)⟩ dX5_adds_98 ?_
      refine z_iconst (pc := 99) X.1 dX5_adds_99 ?_
      refine z_iadd (pc := 100) X.1 dX5_adds_100 ?_
      obtain ⟨μ11, eμ11, h⟩ := z_bnd h
      refine z_iast (pc := 101) X.1 hW rfl ⟨(by decide), (by decide)⟩ dX5_adds_101 (fun H locs hW => ?_)
      replace hW : zW D cy ad A s.heap μ11 H locs := by rw [eμ11]; exact hW
      refine z_iconst (pc := 102) X.1 dX5_adds_102 ?_
      exact z_zret (pc := 103) X hW (by decide) (z_p1 h) (z_p2 h) dX5_adds_103
    · refine z_aload_n (pc := 37) X.1 hl 0 rfl rfl dX5_adds_37 ?_
      refine z_get1 (pc := 38) X.1 hW rfl iX5_adds_1 0 (by decide) rfl (by decide +kernel) dX5_adds_38 ?_
      refine z_iload (pc := 41) X.1 hl 4 rfl dX5_adds_41 ?_
      refine z_iload (pc := 43) X.1 hl 5 rfl dX5_adds_43 ?_
      refine z_callSI (pc := 45) (n := 2) (As := [.int (iO x4), .int (iO x5)]) (rest := [.ref (ad 1)]) X hW hl (C5_of l N x4 x5 μ) gX5_adds_X5_of rfl (by decide +kernel) rfl (by decide) rfl (Nat.le_of_ble_eq_true rfl) dX5_adds_45 (fun H locs hW => ?_)
      refine z_iconst (pc := 48) X.1 dX5_adds_48 ?_
      obtain ⟨g12, h⟩ := z_guard h
      obtain ⟨μ13, eμ13, h⟩ := z_bnd h
      refine z_iast (pc := 49) X.1 hW rfl ⟨g12.1, g12.2⟩ dX5_adds_49 (fun H locs hW => ?_)
      replace hW : zW D cy ad A s.heap μ13 H locs := by rw [eμ13]; exact hW
      refine z_iinc (pc := 50) (i := 5) X.1 [(5, .int (iO (x5 + 1))), (0, .ref (ad 0)), (1, .int (iO x1)), (2, .int (iO x2)), (3, .int (iO x3)), (4, .int (iO x4))] hl 5 rfl rfl (by decide) rfl dX5_adds_50 (fun ls hl => ?_)
      refine z_goto (pc := 53) (tgt := 30) X.1 dX5_adds_53 (by decide) ?_
      exact ih x1 x2 x3 x4 (x5 + 1) μ13 h _ _ ls hW (lv_sub hl [1, 2, 3, 4, 5, 0] rfl)
end
theorem C5_adds (l : Launch) {D : va_G} {cy : ClassId × ClassId} {ad : Nat → Nat} (N : Nat) (a0 : Int) (a1 : Int) (a2 : Int) (μ : mm) {res : (Int × mm)} (h : M5_adds N a0 a1 a2 μ = some res) : zI l yX5_adds wsX5_adds 1 D cy ad [.ref (ad 0), .int (iO a0), .int (iO a1), .int (iO a2)] μ res.1 res.2 := by
  refine zI.of RX5 rfl (by decide) rfl (Nat.le_of_ble_eq_true rfl) ?_
  intro p e s m args below meth c A X hW ls hl
  have hl : lv_has ls 6 [(0, .ref (ad 0)), (1, .int (iO a0)), (2, .int (iO a1)), (3, .int (iO a2))] := hl
  unfold M5_adds at h
  refine z_iload_n (pc := 0) X.1 hl 3 rfl rfl dX5_adds_0 ?_
  refine z_bipush (pc := 1) X.1 dX5_adds_1 (by decide) ?_
  obtain ⟨g1, h⟩ := z_guard h
  refine z_icmp_gt (pc := 3) (tgt := 17) X.1 dX5_adds_3 (by decide) ⟨g1, (by decide)⟩ h (fun c16 h => ?_) (fun c16 h => ?_)
  · refine z_iconst (pc := 17) X.1 dX5_adds_17 ?_
    exact z_zret (pc := 18) X hW (by decide) (z_p1 h) (z_p2 h) dX5_adds_18
  · refine z_aload_n (pc := 6) X.1 hl 0 rfl rfl dX5_adds_6 ?_
    refine z_get1 (pc := 7) X.1 hW rfl iX5_adds_1 0 (by decide) rfl (by decide +kernel) dX5_adds_7 ?_
    refine z_iconst (pc := 10) X.1 dX5_adds_10 ?_
    refine z_iald (pc := 11) X.1 hW rfl ⟨(by decide), (by decide)⟩ dX5_adds_11 ?_
    refine z_bipush (pc := 12) X.1 dX5_adds_12 (by decide) ?_
    obtain ⟨g2, h⟩ := z_guard h
    refine z_icmp_ne (pc := 14) (tgt := 19) X.1 dX5_adds_14 (by decide) ⟨g2, (by decide)⟩ h (fun c15 h => ?_) (fun c15 h => ?_)
    · refine z_aload_n (pc := 19) X.1 hl 0 rfl rfl dX5_adds_19 ?_
      refine z_get1 (pc := 20) X.1 hW rfl iX5_adds_1 0 (by decide) rfl (by decide +kernel) dX5_adds_20 ?_
      refine z_iconst (pc := 23) X.1 dX5_adds_23 ?_
      refine z_iald (pc := 24) X.1 hW rfl ⟨(by decide), (by decide)⟩ dX5_adds_24 ?_
      obtain ⟨w3, ew3, h⟩ := z_bnd h
      refine z_istore (pc := 25) (i := 4) X.1 [(4, .int (iO w3)), (0, .ref (ad 0)), (1, .int (iO a0)), (2, .int (iO a1)), (3, .int (iO a2))] hl ew3 (by decide) rfl dX5_adds_25 (fun ls hl => ?_)
      refine z_iconst (pc := 27) X.1 dX5_adds_27 ?_
      refine z_istore (pc := 28) (i := 5) X.1 [(5, .int (iO 0)), (4, .int (iO w3)), (0, .ref (ad 0)), (1, .int (iO a0)), (2, .int (iO a1)), (3, .int (iO a2))] hl rfl (by decide) rfl dX5_adds_28 (fun ls hl => ?_)
      exact CL5_adds_30 X N N a0 a1 a2 w3 0 μ h _ _ ls hW (lv_sub hl [2, 3, 4, 5, 1, 0] rfl)
    · refine z_iconst (pc := 17) X.1 dX5_adds_17 ?_
      exact z_zret (pc := 18) X hW (by decide) (z_p1 h) (z_p2 h) dX5_adds_18
-- X5_isDone
theorem iX5_isDone_1 : ∀ w ∈ wsX50, w ∈ wsX5_isDone := by decide +kernel
theorem C5_isDone (l : Launch) {D : va_G} {cy : ClassId × ClassId} {ad : Nat → Nat} (N : Nat) (a0 : Int) (μ : mm) {res : (Int × mm)} (h : M5_isDone N a0 μ = some res) : zI l yX5_isDone wsX5_isDone 6 D cy ad [.ref (ad 0), .int (iO a0)] μ res.1 res.2 := by
  refine zI.of RX5 rfl (by decide) rfl (Nat.le_of_ble_eq_true rfl) ?_
  intro p e s m args below meth c A X hW ls hl
  have hl : lv_has ls 4 [(0, .ref (ad 0)), (1, .int (iO a0))] := hl
  unfold M5_isDone at h
  refine z_aload_n (pc := 0) X.1 hl 0 rfl rfl dX5_isDone_0 ?_
  refine z_get1 (pc := 1) X.1 hW rfl iX5_isDone_1 11 (by decide) rfl (by decide +kernel) dX5_isDone_1 ?_
  refine z_iconst (pc := 4) X.1 dX5_isDone_4 ?_
  refine z_iald (pc := 5) X.1 hW rfl ⟨(by decide), (by decide)⟩ dX5_isDone_5 ?_
  obtain ⟨w1, ew1, h⟩ := z_bnd h
  refine z_istore_n (pc := 6) (i := 2) X.1 [(2, .int (iO w1)), (0, .ref (ad 0)), (1, .int (iO a0))] hl ew1 rfl (by decide) rfl dX5_isDone_6 (fun ls hl => ?_)
  refine z_aload_n (pc := 7) X.1 hl 1 rfl rfl dX5_isDone_7 ?_
  refine z_get1 (pc := 8) X.1 hW rfl iX5_isDone_1 11 (by decide) rfl (by decide +kernel) dX5_isDone_8 ?_
  refine z_iconst (pc := 11) X.1 dX5_isDone_11 ?_
  refine z_iald (pc := 12) X.1 hW rfl ⟨(by decide), (by decide)⟩ dX5_isDone_12 ?_
  obtain ⟨w2, ew2, h⟩ := z_bnd h
  refine z_istore_n (pc := 13) (i := 3) X.1 [(3, .int (iO w2)), (2, .int (iO w1)), (0, .ref (ad 0)), (1, .int (iO a0))] hl ew2 rfl (by decide) rfl dX5_isDone_13 (fun ls hl => ?_)
  refine z_iload_n (pc := 14) X.1 hl 3 rfl rfl dX5_isDone_14 ?_
  obtain ⟨g3, h⟩ := z_guard h
  by_cases c7 : a0 = 103
  · rw [if_pos c7] at h
    refine z_tin (pc := 15) (v := 103) (tgt := 198) X.1 dX5_isDone_15 c7 (by decide) (by decide) rfl (by decide) ?_
    refine z_aload_n (pc := 198) X.1 hl 2 rfl rfl dX5_isDone_198 ?_
    refine z_get1 (pc := 199) X.1 hW rfl iX5_isDone_1 0 (by decide) rfl (by decide +kernel) dX5_isDone_199 ?_
    refine z_iconst (pc := 202) X.1 dX5_isDone_202 ?_
    refine z_iald (pc := 203) X.1 hW rfl ⟨(by decide), (by decide)⟩ dX5_isDone_203 ?_
    refine z_iload_n (pc := 204) X.1 hl 1 rfl rfl dX5_isDone_204 ?_
    refine z_iadd (pc := 205) X.1 dX5_isDone_205 ?_
    refine z_sipush (pc := 206) X.1 dX5_isDone_206 (by decide) ?_
    obtain ⟨g4, h⟩ := z_guard h
    refine z_icmp_le (pc := 209) (tgt := 214) X.1 dX5_isDone_209 (by decide) ⟨g4, (by decide)⟩ h (fun c6 h => ?_) (fun c6 h => ?_)
    · refine z_aload_n (pc := 214) X.1 hl 2 rfl rfl dX5_isDone_214 ?_
      refine z_get1 (pc := 215) X.1 hW rfl iX5_isDone_1 0 (by decide) rfl (by decide +kernel) dX5_isDone_215 ?_
      refine z_iconst (pc := 218) X.1 dX5_isDone_218 ?_
      refine z_dup2 (pc := 219) X.1 dX5_isDone_219 rfl rfl ?_
      refine z_iald (pc := 220) X.1 hW rfl ⟨(by decide), (by decide)⟩ dX5_isDone_220 ?_
      refine z_iload_n (pc := 221) X.1 hl 1 rfl rfl dX5_isDone_221 ?_
      refine z_iadd (pc := 222) X.1 dX5_isDone_222 ?_
      obtain ⟨μ5, eμ5, h⟩ := z_bnd h
      refine z_iast (pc := 223) X.1 hW rfl ⟨(by decide), (by decide)⟩ dX5_isDone_223 (fun H locs hW => ?_)
      replace hW : zW D cy ad A s.heap μ5 H locs := by rw [eμ5]; exact hW
      refine z_iconst (pc := 224) X.1 dX5_isDone_224 ?_
      exact z_zret (pc := 225) X hW (by decide) (z_p1 h) (z_p2 h) dX5_isDone_225
    · refine z_iconst (pc := 212) X.1 dX5_isDone_212 ?_
      exact z_zret (pc := 213) X hW (by decide) (z_p1 h) (z_p2 h) dX5_isDone_213
  · rw [if_neg c7] at h
    by_cases c14 : a0 = 104
    · rw [if_pos c14] at h
      refine z_tin (pc := 15) (v := 104) (tgt := 226) X.1 dX5_isDone_15 c14 (by decide) (by decide) rfl (by decide) ?_
      refine z_iload_n (pc := 226) X.1 hl 1 rfl rfl dX5_isDone_226 ?_
      refine z_iconst (pc := 227) X.1 dX5_isDone_227 ?_
      refine z_bipush (pc := 228) X.1 dX5_isDone_228 (by decide) ?_
      obtain ⟨q8, eq8, h⟩ := z_bind h
      refine z_callSI (pc := 230) (n := 3) (As := [.int (iO w1), .int (iO 1), .int (iO 60)]) (rest := []) X hW hl (C5_isIn l N w1 1 60 μ eq8) gX5_isDone_X5_isIn rfl (by decide +kernel) rfl (by decide) rfl (Nat.le_of_ble_eq_true rfl) dX5_isDone_230 (fun H locs hW => ?_)
      obtain ⟨g9, h⟩ := z_guard h
      refine z_if_eq (pc := 233) (tgt := 250) X.1 dX5_isDone_233 (by decide) g9 h (fun c13 h => ?_) (fun c13 h => ?_)
      · refine z_iconst (pc := 250) X.1 dX5_isDone_250 ?_
        exact z_zret (pc := 251) X hW (by decide) (z_p1 h) (z_p2 h) dX5_isDone_251
      · refine z_aload_n (pc := 236) X.1 hl 2 rfl rfl dX5_isDone_236 ?_
        refine z_get1 (pc := 237) X.1 hW rfl iX5_isDone_1 0 (by decide) rfl (by decide +kernel) dX5_isDone_237 ?_
        refine z_iconst (pc := 240) X.1 dX5_isDone_240 ?_
        refine z_iald (pc := 241) X.1 hW rfl ⟨(by decide), (by decide)⟩ dX5_isDone_241 ?_
        refine z_iload_n (pc := 242) X.1 hl 1 rfl rfl dX5_isDone_242 ?_
        refine z_iadd (pc := 243) X.1 dX5_isDone_243 ?_
        refine z_sipush (pc := 244) X.1 dX5_isDone_244 (by decide) ?_
        obtain ⟨g10, h⟩ := z_guard h
        refine z_icmp_le (pc := 247) (tgt := 252) X.1 dX5_isDone_247 (by decide) ⟨g10, (by decide)⟩ h (fun c12 h => ?_) (fun c12 h => ?_)
        · refine z_aload_n (pc := 252) X.1 hl 2 rfl rfl dX5_isDone_252 ?_
          refine z_get1 (pc := 253) X.1 hW rfl iX5_isDone_1 0 (by decide) rfl (by decide +kernel) dX5_isDone_253 ?_
          refine z_iload_n (pc := 256) X.1 hl 1 rfl rfl dX5_isDone_256 ?_
          obtain ⟨q11, eq11, h⟩ := z_bind h
          refine z_callSV (pc := 257) (n := 2) (As := [.ref (ad 1), .int (iO w1)]) (rest := []) X hW hl (C5_daysOn l N 1 w1 (by decide) μ eq11) gX5_isDone_X5_daysOn rfl (by decide +kernel) rfl (by decide) rfl (Nat.le_of_ble_eq_true rfl) dX5_isDone_257 (fun H locs hW => ?_)
          refine z_iconst (pc := 260) X.1 dX5_isDone_260 ?_
          exact z_zret (pc := 261) X hW (by decide) (z_p1 h) (z_p2 h) dX5_isDone_261
        · refine z_iconst (pc := 250) X.1 dX5_isDone_250 ?_
          exact z_zret (pc := 251) X hW (by decide) (z_p1 h) (z_p2 h) dX5_isDone_251
    · rw [if_neg c14] at h
      by_cases c24 : a0 = 105
      · rw [if_pos c24] at h
        refine z_tin (pc := 15) (v := 105) (tgt := 101) X.1 dX5_isDone_15 c24 (by decide) (by decide) rfl (by decide) ?_
        refine z_aload_n (pc := 101) X.1 hl 2 rfl rfl dX5_isDone_101 ?_
        refine z_iload_n (pc := 102) X.1 hl 1 rfl rfl dX5_isDone_102 ?_
        obtain ⟨q15, eq15, h⟩ := z_bind h
        refine z_callV1I (pc := 103) (n := 1) (As := [.int (iO w1)]) (rest := []) X hW hl rfl (C5_isOne l N w1 μ eq15) gX5_isDone_X5_isOne rfl (by decide +kernel) rfl (by decide) rfl (Nat.le_of_ble_eq_true rfl) dX5_isDone_103 (fun H locs hW => ?_)
        obtain ⟨g16, h⟩ := z_guard h
        refine z_if_eq (pc := 106) (tgt := 136) X.1 dX5_isDone_106 (by decide) g16 h (fun c23 h => ?_) (fun c23 h => ?_)
        · refine z_iconst (pc := 136) X.1 dX5_isDone_136 ?_
          exact z_zret (pc := 137) X hW (by decide) (z_p1 h) (z_p2 h) dX5_isDone_137
        · refine z_iload_n (pc := 109) X.1 hl 0 rfl rfl dX5_isDone_109 ?_
          refine z_aload_n (pc := 110) X.1 hl 2 rfl rfl dX5_isDone_110 ?_
          refine z_get1 (pc := 111) X.1 hW rfl iX5_isDone_1 0 (by decide) rfl (by decide +kernel) dX5_isDone_111 ?_
          refine z_iconst (pc := 114) X.1 dX5_isDone_114 ?_
          refine z_iald (pc := 115) X.1 hW rfl ⟨(by decide), (by decide)⟩ dX5_isDone_115 ?_
          obtain ⟨g17, h⟩ := z_guard h
          refine z_icmp_gt (pc := 116) (tgt := 136) X.1 dX5_isDone_116 (by decide) ⟨g17.1, g17.2⟩ h (fun c22 h => ?_) (fun c22 h => ?_)
          · refine z_iconst (pc := 136) X.1 dX5_isDone_136 ?_
            exact z_zret (pc := 137) X hW (by decide) (z_p1 h) (z_p2 h) dX5_isDone_137
          · refine z_aload_n (pc := 119) X.1 hl 2 rfl rfl dX5_isDone_119 ?_
            refine z_get1 (pc := 120) X.1 hW rfl iX5_isDone_1 0 (by decide) rfl (by decide +kernel) dX5_isDone_120 ?_
            refine z_iload_n (pc := 123) X.1 hl 1 rfl rfl dX5_isDone_123 ?_
            refine z_iconst (pc := 124) X.1 dX5_isDone_124 ?_
            refine z_callSI (pc := 125) (n := 2) (As := [.int (iO w1), .int (iO 2)]) (rest := [.ref (ad 1)]) X hW hl (C5_of l N w1 2 μ) gX5_isDone_X5_of rfl (by decide +kernel) rfl (by decide) rfl (Nat.le_of_ble_eq_true rfl) dX5_isDone_125 (fun H locs hW => ?_)
            obtain ⟨g18, h⟩ := z_guard h
            refine z_iald (pc := 128) X.1 hW rfl ⟨g18.1, g18.2⟩ dX5_isDone_128 ?_
            refine z_iload_n (pc := 129) X.1 hl 0 rfl rfl dX5_isDone_129 ?_
            refine z_iadd (pc := 130) X.1 dX5_isDone_130 ?_
            refine z_bipush (pc := 131) X.1 dX5_isDone_131 (by decide) ?_
            obtain ⟨g19, h⟩ := z_guard h
            refine z_icmp_le (pc := 133) (tgt := 138) X.1 dX5_isDone_133 (by decide) ⟨g19, (by decide)⟩ h (fun c21 h => ?_) (fun c21 h => ?_)
            · refine z_aload_n (pc := 138) X.1 hl 2 rfl rfl dX5_isDone_138 ?_
              refine z_get1 (pc := 139) X.1 hW rfl iX5_isDone_1 0 (by decide) rfl (by decide +kernel) dX5_isDone_139 ?_
              refine z_iload_n (pc := 142) X.1 hl 1 rfl rfl dX5_isDone_142 ?_
              refine z_iload_n (pc := 143) X.1 hl 0 rfl rfl dX5_isDone_143 ?_
              obtain ⟨q20, eq20, h⟩ := z_bind h
              refine z_callSV (pc := 144) (n := 3) (As := [.ref (ad 1), .int (iO w1), .int (iO w2)]) (rest := []) X hW hl (C5_issuesIn l N 1 w1 w2 (by decide) μ eq20) gX5_isDone_X5_issuesIn rfl (by decide +kernel) rfl (by decide) rfl (Nat.le_of_ble_eq_true rfl) dX5_isDone_144 (fun H locs hW => ?_)
              refine z_iconst (pc := 147) X.1 dX5_isDone_147 ?_
              exact z_zret (pc := 148) X hW (by decide) (z_p1 h) (z_p2 h) dX5_isDone_148
            · refine z_iconst (pc := 136) X.1 dX5_isDone_136 ?_
              exact z_zret (pc := 137) X hW (by decide) (z_p1 h) (z_p2 h) dX5_isDone_137
      · rw [if_neg c24] at h
        by_cases c31 : a0 = 106
        · rw [if_pos c31] at h
          refine z_tin (pc := 15) (v := 106) (tgt := 226) X.1 dX5_isDone_15 c31 (by decide) (by decide) rfl (by decide) ?_
          refine z_iload_n (pc := 226) X.1 hl 1 rfl rfl dX5_isDone_226 ?_
          refine z_iconst (pc := 227) X.1 dX5_isDone_227 ?_
          refine z_bipush (pc := 228) X.1 dX5_isDone_228 (by decide) ?_
          obtain ⟨q25, eq25, h⟩ := z_bind h
          refine z_callSI (pc := 230) (n := 3) (As := [.int (iO w1), .int (iO 1), .int (iO 60)]) (rest := []) X hW hl (C5_isIn l N w1 1 60 μ eq25) gX5_isDone_X5_isIn rfl (by decide +kernel) rfl (by decide) rfl (Nat.le_of_ble_eq_true rfl) dX5_isDone_230 (fun H locs hW => ?_)
          obtain ⟨g26, h⟩ := z_guard h
          refine z_if_eq (pc := 233) (tgt := 250) X.1 dX5_isDone_233 (by decide) g26 h (fun c30 h => ?_) (fun c30 h => ?_)
          · refine z_iconst (pc := 250) X.1 dX5_isDone_250 ?_
            exact z_zret (pc := 251) X hW (by decide) (z_p1 h) (z_p2 h) dX5_isDone_251
          · refine z_aload_n (pc := 236) X.1 hl 2 rfl rfl dX5_isDone_236 ?_
            refine z_get1 (pc := 237) X.1 hW rfl iX5_isDone_1 0 (by decide) rfl (by decide +kernel) dX5_isDone_237 ?_
            refine z_iconst (pc := 240) X.1 dX5_isDone_240 ?_
            refine z_iald (pc := 241) X.1 hW rfl ⟨(by decide), (by decide)⟩ dX5_isDone_241 ?_
            refine z_iload_n (pc := 242) X.1 hl 1 rfl rfl dX5_isDone_242 ?_
            refine z_iadd (pc := 243) X.1 dX5_isDone_243 ?_
            refine z_sipush (pc := 244) X.1 dX5_isDone_244 (by decide) ?_
            obtain ⟨g27, h⟩ := z_guard h
            refine z_icmp_le (pc := 247) (tgt := 252) X.1 dX5_isDone_247 (by decide) ⟨g27, (by decide)⟩ h (fun c29 h => ?_) (fun c29 h => ?_)
            · refine z_aload_n (pc := 252) X.1 hl 2 rfl rfl dX5_isDone_252 ?_
              refine z_get1 (pc := 253) X.1 hW rfl iX5_isDone_1 0 (by decide) rfl (by decide +kernel) dX5_isDone_253 ?_
              refine z_iload_n (pc := 256) X.1 hl 1 rfl rfl dX5_isDone_256 ?_
              obtain ⟨q28, eq28, h⟩ := z_bind h
              refine z_callSV (pc := 257) (n := 2) (As := [.ref (ad 1), .int (iO w1)]) (rest := []) X hW hl (C5_daysOn l N 1 w1 (by decide) μ eq28) gX5_isDone_X5_daysOn rfl (by decide +kernel) rfl (by decide) rfl (Nat.le_of_ble_eq_true rfl) dX5_isDone_257 (fun H locs hW => ?_)
              refine z_iconst (pc := 260) X.1 dX5_isDone_260 ?_
              exact z_zret (pc := 261) X hW (by decide) (z_p1 h) (z_p2 h) dX5_isDone_261
            · refine z_iconst (pc := 250) X.1 dX5_isDone_250 ?_
              exact z_zret (pc := 251) X hW (by decide) (z_p1 h) (z_p2 h) dX5_isDone_251
        · rw [if_neg c31] at h
          by_cases c38 : a0 = 107
          · rw [if_pos c38] at h
            refine z_tin (pc := 15) (v := 107) (tgt := 226) X.1 dX5_isDone_15 c38 (by decide) (by decide) rfl (by decide) ?_
            refine z_iload_n (pc := 226) X.1 hl 1 rfl rfl dX5_isDone_226 ?_
            refine z_iconst (pc := 227) X.1 dX5_isDone_227 ?_
            refine z_bipush (pc := 228) X.1 dX5_isDone_228 (by decide) ?_
            obtain ⟨q32, eq32, h⟩ := z_bind h
            refine z_callSI (pc := 230) (n := 3) (As := [.int (iO w1), .int (iO 1), .int (iO 60)]) (rest := []) X hW hl (C5_isIn l N w1 1 60 μ eq32) gX5_isDone_X5_isIn rfl (by decide +kernel) rfl (by decide) rfl (Nat.le_of_ble_eq_true rfl) dX5_isDone_230 (fun H locs hW => ?_)
            obtain ⟨g33, h⟩ := z_guard h
            refine z_if_eq (pc := 233) (tgt := 250) X.1 dX5_isDone_233 (by decide) g33 h (fun c37 h => ?_) (fun c37 h => ?_)
            · refine z_iconst (pc := 250) X.1 dX5_isDone_250 ?_
              exact z_zret (pc := 251) X hW (by decide) (z_p1 h) (z_p2 h) dX5_isDone_251
            · refine z_aload_n (pc := 236) X.1 hl 2 rfl rfl dX5_isDone_236 ?_
              refine z_get1 (pc := 237) X.1 hW rfl iX5_isDone_1 0 (by decide) rfl (by decide +kernel) dX5_isDone_237 ?_
              refine z_iconst (pc := 240) X.1 dX5_isDone_240 ?_
              refine z_iald (pc := 241) X.1 hW rfl ⟨(by decide), (by decide)⟩ dX5_isDone_241 ?_
              refine z_iload_n (pc := 242) X.1 hl 1 rfl rfl dX5_isDone_242 ?_
              refine z_iadd (pc := 243) X.1 dX5_isDone_243 ?_
              refine z_sipush (pc := 244) X.1 dX5_isDone_244 (by decide) ?_
              obtain ⟨g34, h⟩ := z_guard h
              refine z_icmp_le (pc := 247) (tgt := 252) X.1 dX5_isDone_247 (by decide) ⟨g34, (by decide)⟩ h (fun c36 h => ?_) (fun c36 h => ?_)
              · refine z_aload_n (pc := 252) X.1 hl 2 rfl rfl dX5_isDone_252 ?_
                refine z_get1 (pc := 253) X.1 hW rfl iX5_isDone_1 0 (by decide) rfl (by decide +kernel) dX5_isDone_253 ?_
                refine z_iload_n (pc := 256) X.1 hl 1 rfl rfl dX5_isDone_256 ?_
                obtain ⟨q35, eq35, h⟩ := z_bind h
                refine z_callSV (pc := 257) (n := 2) (As := [.ref (ad 1), .int (iO w1)]) (rest := []) X hW hl (C5_daysOn l N 1 w1 (by decide) μ eq35) gX5_isDone_X5_daysOn rfl (by decide +kernel) rfl (by decide) rfl (Nat.le_of_ble_eq_true rfl) dX5_isDone_257 (fun H locs hW => ?_)
                refine z_iconst (pc := 260) X.1 dX5_isDone_260 ?_
                exact z_zret (pc := 261) X hW (by decide) (z_p1 h) (z_p2 h) dX5_isDone_261
              · refine z_iconst (pc := 250) X.1 dX5_isDone_250 ?_
                exact z_zret (pc := 251) X hW (by decide) (z_p1 h) (z_p2 h) dX5_isDone_251
          · rw [if_neg c38] at h
            by_cases c45 : a0 = 108
            · rw [if_pos c45] at h
              refine z_tin (pc := 15) (v := 108) (tgt := 226) X.1 dX5_isDone_15 c45 (by decide) (by decide) rfl (by decide) ?_
              refine z_iload_n (pc := 226) X.1 hl 1 rfl rfl dX5_isDone_226 ?_
              refine z_iconst (pc := 227) X.1 dX5_isDone_227 ?_
              refine z_bipush (pc := 228) X.1 dX5_isDone_228 (by decide) ?_
              obtain ⟨q39, eq39, h⟩ := z_bind h
              refine z_callSI (pc := 230) (n := 3) (As := [.int (iO w1), .int (iO 1), .int (iO 60)]) (rest := []) X hW hl (C5_isIn l N w1 1 60 μ eq39) gX5_isDone_X5_isIn rfl (by decide +kernel) rfl (by decide) rfl (Nat.le_of_ble_eq_true rfl) dX5_isDone_230 (fun H locs hW => ?_)
              obtain ⟨g40, h⟩ := z_guard h
              refine z_if_eq (pc := 233) (tgt := 250) X.1 dX5_isDone_233 (by decide) g40 h (fun c44 h => ?_) (fun c44 h => ?_)
              · refine z_iconst (pc := 250) X.1 dX5_isDone_250 ?_
                exact z_zret (pc := 251) X hW (by decide) (z_p1 h) (z_p2 h) dX5_isDone_251
              · refine z_aload_n (pc := 236) X.1 hl 2 rfl rfl dX5_isDone_236 ?_
                refine z_get1 (pc := 237) X.1 hW rfl iX5_isDone_1 0 (by decide) rfl (by decide +kernel) dX5_isDone_237 ?_
                refine z_iconst (pc := 240) X.1 dX5_isDone_240 ?_
                refine z_iald (pc := 241) X.1 hW rfl ⟨(by decide), (by decide)⟩ dX5_isDone_241 ?_
                refine z_iload_n (pc := 242) X.1 hl 1 rfl rfl dX5_isDone_242 ?_
                refine z_iadd (pc := 243) X.1 dX5_isDone_243 ?_
                refine z_sipush (pc := 244) X.1 dX5_isDone_244 (by decide) ?_
                obtain ⟨g41, h⟩ := z_guard h
                refine z_icmp_le (pc := 247) (tgt := 252) X.1 dX5_isDone_247 (by decide) ⟨g41, (by decide)⟩ h (fun c43 h => ?_) (fun c43 h => ?_)
                · refine z_aload_n (pc := 252) X.1 hl 2 rfl rfl dX5_isDone_252 ?_
                  refine z_get1 (pc := 253) X.1 hW rfl iX5_isDone_1 0 (by decide) rfl (by decide +kernel) dX5_isDone_253 ?_
                  refine z_iload_n (pc := 256) X.1 hl 1 rfl rfl dX5_isDone_256 ?_
                  obtain ⟨q42, eq42, h⟩ := z_bind h
                  refine z_callSV (pc := 257) (n := 2) (As := [.ref (ad 1), .int (iO w1)]) (rest := []) X hW hl (C5_daysOn l N 1 w1 (by decide) μ eq42) gX5_isDone_X5_daysOn rfl (by decide +kernel) rfl (by decide) rfl (Nat.le_of_ble_eq_true rfl) dX5_isDone_257 (fun H locs hW => ?_)
                  refine z_iconst (pc := 260) X.1 dX5_isDone_260 ?_
                  exact z_zret (pc := 261) X hW (by decide) (z_p1 h) (z_p2 h) dX5_isDone_261
                · refine z_iconst (pc := 250) X.1 dX5_isDone_250 ?_
                  exact z_zret (pc := 251) X hW (by decide) (z_p1 h) (z_p2 h) dX5_isDone_251
            · rw [if_neg c45] at h
              by_cases c52 : a0 = 109
              · rw [if_pos c52] at h
                refine z_tin (pc := 15) (v := 109) (tgt := 226) X.1 dX5_isDone_15 c52 (by decide) (by decide) rfl (by decide) ?_
                refine z_iload_n (pc := 226) X.1 hl 1 rfl rfl dX5_isDone_226 ?_
                refine z_iconst (pc := 227) X.1 dX5_isDone_227 ?_
                refine z_bipush (pc := 228) X.1 dX5_isDone_228 (by decide) ?_
                obtain ⟨q46, eq46, h⟩ := z_bind h
                refine z_callSI (pc := 230) (n := 3) (As := [.int (iO w1), .int (iO 1), .int (iO 60)]) (rest := []) X hW hl (C5_isIn l N w1 1 60 μ eq46) gX5_isDone_X5_isIn rfl (by decide +kernel) rfl (by decide) rfl (Nat.le_of_ble_eq_true rfl) dX5_isDone_230 (fun H locs hW => ?_)
                obtain ⟨g47, h⟩ := z_guard h
                refine z_if_eq (pc := 233) (tgt := 250) X.1 dX5_isDone_233 (by decide) g47 h (fun c51 h => ?_) (fun c51 h => ?_)
                · refine z_iconst (pc := 250) X.1 dX5_isDone_250 ?_
                  exact z_zret (pc := 251) X hW (by decide) (z_p1 h) (z_p2 h) dX5_isDone_251
                · refine z_aload_n (pc := 236) X.1 hl 2 rfl rfl dX5_isDone_236 ?_
                  refine z_get1 (pc := 237) X.1 hW rfl iX5_isDone_1 0 (by decide) rfl (by decide +kernel) dX5_isDone_237 ?_
                  refine z_iconst (pc := 240) X.1 dX5_isDone_240 ?_
                  refine z_iald (pc := 241) X.1 hW rfl ⟨(by decide), (by decide)⟩ dX5_isDone_241 ?_
                  refine z_iload_n (pc := 242) X.1 hl 1 rfl rfl dX5_isDone_242 ?_
                  refine z_iadd (pc := 243) X.1 dX5_isDone_243 ?_
                  refine z_sipush (pc := 244) X.1 dX5_isDone_244 (by decide) ?_
                  obtain ⟨g48, h⟩ := z_guard h
                  refine z_icmp_le (pc := 247) (tgt := 252) X.1 dX5_isDone_247 (by decide) ⟨g48, (by decide)⟩ h (fun c50 h => ?_) (fun c50 h => ?_)
                  · refine z_aload_n (pc := 252) X.1 hl 2 rfl rfl dX5_isDone_252 ?_
                    refine z_get1 (pc := 253) X.1 hW rfl iX5_isDone_1 0 (by decide) rfl (by decide +kernel) dX5_isDone_253 ?_
                    refine z_iload_n (pc := 256) X.1 hl 1 rfl rfl dX5_isDone_256 ?_
                    obtain ⟨q49, eq49, h⟩ := z_bind h
                    refine z_callSV (pc := 257) (n := 2) (As := [.ref (ad 1), .int (iO w1)]) (rest := []) X hW hl (C5_daysOn l N 1 w1 (by decide) μ eq49) gX5_isDone_X5_daysOn rfl (by decide +kernel) rfl (by decide) rfl (Nat.le_of_ble_eq_true rfl) dX5_isDone_257 (fun H locs hW => ?_)
                    refine z_iconst (pc := 260) X.1 dX5_isDone_260 ?_
                    exact z_zret (pc := 261) X hW (by decide) (z_p1 h) (z_p2 h) dX5_isDone_261
                  · refine z_iconst (pc := 250) X.1 dX5_isDone_250 ?_
                    exact z_zret (pc := 251) X hW (by decide) (z_p1 h) (z_p2 h) dX5_isDone_251
              · rw [if_neg c52] at h
                by_cases c59 : a0 = 110
                · rw [if_pos c59] at h
                  refine z_tin (pc := 15) (v := 110) (tgt := 226) X.1 dX5_isDone_15 c59 (by decide) (by decide) rfl (by decide) ?_
                  refine z_iload_n (pc := 226) X.1 hl 1 rfl rfl dX5_isDone_226 ?_
                  refine z_iconst (pc := 227) X.1 dX5_isDone_227 ?_
                  refine z_bipush (pc := 228) X.1 dX5_isDone_228 (by decide) ?_
                  obtain ⟨q53, eq53, h⟩ := z_bind h
                  refine z_callSI (pc := 230) (n := 3) (As := [.int (iO w1), .int (iO 1), .int (iO 60)]) (rest := []) X hW hl (C5_isIn l N w1 1 60 μ eq53) gX5_isDone_X5_isIn rfl (by decide +kernel) rfl (by decide) rfl (Nat.le_of_ble_eq_true rfl) dX5_isDone_230 (fun H locs hW => ?_)
                  obtain ⟨g54, h⟩ := z_guard h
                  refine z_if_eq (pc := 233) (tgt := 250) X.1 dX5_isDone_233 (by decide) g54 h (fun c58 h => ?_) (fun c58 h => ?_)
                  · refine z_iconst (pc := 250) X.1 dX5_isDone_250 ?_
                    exact z_zret (pc := 251) X hW (by decide) (z_p1 h) (z_p2 h) dX5_isDone_251
                  · refine z_aload_n (pc := 236) X.1 hl 2 rfl rfl dX5_isDone_236 ?_
                    refine z_get1 (pc := 237) X.1 hW rfl iX5_isDone_1 0 (by decide) rfl (by decide +kernel) dX5_isDone_237 ?_
                    refine z_iconst (pc := 240) X.1 dX5_isDone_240 ?_
                    refine z_iald (pc := 241) X.1 hW rfl ⟨(by decide), (by decide)⟩ dX5_isDone_241 ?_
                    refine z_iload_n (pc := 242) X.1 hl 1 rfl rfl dX5_isDone_242 ?_
                    refine z_iadd (pc := 243) X.1 dX5_isDone_243 ?_
                    refine z_sipush (pc := 244) X.1 dX5_isDone_244 (by decide) ?_
                    obtain ⟨g55, h⟩ := z_guard h
                    refine z_icmp_le (pc := 247) (tgt := 252) X.1 dX5_isDone_247 (by decide) ⟨g55, (by decide)⟩ h (fun c57 h => ?_) (fun c57 h => ?_)
                    · refine z_aload_n (pc := 252) X.1 hl 2 rfl rfl dX5_isDone_252 ?_
                      refine z_get1 (pc := 253) X.1 hW rfl iX5_isDone_1 0 (by decide) rfl (by decide +kernel) dX5_isDone_253 ?_
                      refine z_iload_n (pc := 256) X.1 hl 1 rfl rfl dX5_isDone_256 ?_
                      obtain ⟨q56, eq56, h⟩ := z_bind h
                      refine z_callSV (pc := 257) (n := 2) (As := [.ref (ad 1), .int (iO w1)]) (rest := []) X hW hl (C5_daysOn l N 1 w1 (by decide) μ eq56) gX5_isDone_X5_daysOn rfl (by decide +kernel) rfl (by decide) rfl (Nat.le_of_ble_eq_true rfl) dX5_isDone_257 (fun H locs hW => ?_)
                      refine z_iconst (pc := 260) X.1 dX5_isDone_260 ?_
                      exact z_zret (pc := 261) X hW (by decide) (z_p1 h) (z_p2 h) dX5_isDone_261
                    · refine z_iconst (pc := 250) X.1 dX5_isDone_250 ?_
                      exact z_zret (pc := 251) X hW (by decide) (z_p1 h) (z_p2 h) dX5_isDone_251
                · rw [if_neg c59] at h
                  by_cases c66 : a0 = 111
                  · rw [if_pos c66] at h
                    refine z_tin (pc := 15) (v := 111) (tgt := 226) X.1 dX5_isDone_15 c66 (by decide) (by decide) rfl (by decide) ?_
                    refine z_iload_n (pc := 226) X.1 hl 1 rfl rfl dX5_isDone_226 ?_
                    refine z_iconst (pc := 227) X.1 dX5_isDone_227 ?_
                    refine z_bipush (pc := 228) X.1 dX5_isDone_228 (by decide) ?_
                    obtain ⟨q60, eq60, h⟩ := z_bind h
                    refine z_callSI (pc := 230) (n := 3) (As := [.int (iO w1), .int (iO 1), .int (iO 60)]) (rest := []) X hW hl (C5_isIn l N w1 1 60 μ eq60) gX5_isDone_X5_isIn rfl (by decide +kernel) rfl (by decide) rfl (Nat.le_of_ble_eq_true rfl) dX5_isDone_230 (fun H locs hW => ?_)
                    obtain ⟨g61, h⟩ := z_guard h
                    refine z_if_eq (pc := 233) (tgt := 250) X.1 dX5_isDone_233 (by decide) g61 h (fun c65 h => ?_) (fun c65 h => ?_)
                    · refine z_iconst (pc := 250) X.1 dX5_isDone_250 ?_
                      exact z_zret (pc := 251) X hW (by decide) (z_p1 h) (z_p2 h) dX5_isDone_251
                    · refine z_aload_n (pc := 236) X.1 hl 2 rfl rfl dX5_isDone_236 ?_
                      refine z_get1 (pc := 237) X.1 hW rfl iX5_isDone_1 0 (by decide) rfl (by decide +kernel) dX5_isDone_237 ?_
                      refine z_iconst (pc := 240) X.1 dX5_isDone_240 ?_
                      refine z_iald (pc := 241) X.1 hW rfl ⟨(by decide), (by decide)⟩ dX5_isDone_241 ?_
                      refine z_iload_n (pc := 242) X.1 hl 1 rfl rfl dX5_isDone_242 ?_
                      refine z_iadd (pc := 243) X.1 dX5_isDone_243 ?_
                      refine z_sipush (pc := 244) X.1 dX5_isDone_244 (by decide) ?_
                      obtain ⟨g62, h⟩ := z_guard h
                      refine z_icmp_le (pc := 247) (tgt := 252) X.1 dX5_isDone_247 (by decide) ⟨g62, (by decide)⟩ h (fun c64 h => ?_) (fun c64 h => ?_)
                      · refine z_aload_n (pc := 252) X.1 hl 2 rfl rfl dX5_isDone_252 ?_
                        refine z_get1 (pc := 253) X.1 hW rfl iX5_isDone_1 0 (by decide) rfl (by decide +kernel) dX5_isDone_253 ?_
                        refine z_iload_n (pc := 256) X.1 hl 1 rfl rfl dX5_isDone_256 ?_
                        obtain ⟨q63, eq63, h⟩ := z_bind h
                        refine z_callSV (pc := 257) (n := 2) (As := [.ref (ad 1), .int (iO w1)]) (rest := []) X hW hl (C5_daysOn l N 1 w1 (by decide) μ eq63) gX5_isDone_X5_daysOn rfl (by decide +kernel) rfl (by decide) rfl (Nat.le_of_ble_eq_true rfl) dX5_isDone_257 (fun H locs hW => ?_)
                        refine z_iconst (pc := 260) X.1 dX5_isDone_260 ?_
                        exact z_zret (pc := 261) X hW (by decide) (z_p1 h) (z_p2 h) dX5_isDone_261
                      · refine z_iconst (pc := 250) X.1 dX5_isDone_250 ?_
                        exact z_zret (pc := 251) X hW (by decide) (z_p1 h) (z_p2 h) dX5_isDone_251
                  · rw [if_neg c66] at h
                    by_cases c69 : a0 = 112
                    · rw [if_pos c69] at h
                      refine z_tin (pc := 15) (v := 112) (tgt := 88) X.1 dX5_isDone_15 c69 (by decide) (by decide) rfl (by decide) ?_
                      refine z_aload_n (pc := 88) X.1 hl 2 rfl rfl dX5_isDone_88 ?_
                      refine z_iload_n (pc := 89) X.1 hl 1 rfl rfl dX5_isDone_89 ?_
                      refine z_iload_n (pc := 90) X.1 hl 0 rfl rfl dX5_isDone_90 ?_
                      refine z_aload_n (pc := 91) X.1 hl 2 rfl rfl dX5_isDone_91 ?_
                      refine z_get1 (pc := 92) X.1 hW rfl iX5_isDone_1 11 (by decide) rfl (by decide +kernel) dX5_isDone_92 ?_
                      refine z_iconst (pc := 95) X.1 dX5_isDone_95 ?_
                      refine z_iald (pc := 96) X.1 hW rfl ⟨(by decide), (by decide)⟩ dX5_isDone_96 ?_
                      obtain ⟨q67, eq67, h⟩ := z_bind h
                      refine z_callV1I (pc := 97) (n := 3) (As := [.int (iO w1), .int (iO w2), .int (iO (μ 8 2))]) (rest := []) X hW hl rfl (C5_adds l N w1 w2 (μ 8 2) μ eq67) gX5_isDone_X5_adds rfl (by decide +kernel) rfl (by decide) rfl (Nat.le_of_ble_eq_true rfl) dX5_isDone_97 (fun H locs hW => ?_)
                      obtain ⟨g68, h⟩ := z_guard h
                      exact z_zret (pc := 100) X hW g68 (z_p1 h) (z_p2 h) dX5_isDone_100
                    · rw [if_neg c69] at h
                      by_cases c76 : a0 = 113
                      · rw [if_pos c76] at h
                        refine z_tin (pc := 15) (v := 113) (tgt := 226) X.1 dX5_isDone_15 c76 (by decide) (by decide) rfl (by decide) ?_
                        refine z_iload_n (pc := 226) X.1 hl 1 rfl rfl dX5_isDone_226 ?_
                        refine z_iconst (pc := 227) X.1 dX5_isDone_227 ?_
                        refine z_bipush (pc := 228) X.1 dX5_isDone_228 (by decide) ?_
                        obtain ⟨q70, eq70, h⟩ := z_bind h
                        refine z_callSI (pc := 230) (n := 3) (As := [.int (iO w1), .int (iO 1), .int (iO 60)]) (rest := []) X hW hl (C5_isIn l N w1 1 60 μ eq70) gX5_isDone_X5_isIn rfl (by decide +kernel) rfl (by decide) rfl (Nat.le_of_ble_eq_true rfl) dX5_isDone_230 (fun H locs hW => ?_)
                        obtain ⟨g71, h⟩ := z_guard h
                        refine z_if_eq (pc := 233) (tgt := 250) X.1 dX5_isDone_233 (by decide) g71 h (fun c75 h => ?_) (fun c75 h => ?_)
                        · refine z_iconst (pc := 250) X.1 dX5_isDone_250 ?_
                          exact z_zret (pc := 251) X hW (by decide) (z_p1 h) (z_p2 h) dX5_isDone_251
                        · refine z_aload_n (pc := 236) X.1 hl 2 rfl rfl dX5_isDone_236 ?_
                          refine z_get1 (pc := 237) X.1 hW rfl iX5_isDone_1 0 (by decide) rfl (by decide +kernel) dX5_isDone_237 ?_
                          refine z_iconst (pc := 240) X.1 dX5_isDone_240 ?_
                          refine z_iald (pc := 241) X.1 hW rfl ⟨(by decide), (by decide)⟩ dX5_isDone_241 ?_
                          refine z_iload_n (pc := 242) X.1 hl 1 rfl rfl dX5_isDone_242 ?_
                          refine z_iadd (pc := 243) X.1 dX5_isDone_243 ?_
                          refine z_sipush (pc := 244) X.1 dX5_isDone_244 (by decide) ?_
                          obtain ⟨g72, h⟩ := z_guard h
                          refine z_icmp_le (pc := 247) (tgt := 252) X.1 dX5_isDone_247 (by decide) ⟨g72, (by decide)⟩ h (fun c74 h => ?_) (fun c74 h => ?_)
                          · refine z_aload_n (pc := 252) X.1 hl 2 rfl rfl dX5_isDone_252 ?_
                            refine z_get1 (pc := 253) X.1 hW rfl iX5_isDone_1 0 (by decide) rfl (by decide +kernel) dX5_isDone_253 ?_
                            refine z_iload_n (pc := 256) X.1 hl 1 rfl rfl dX5_isDone_256 ?_
                            obtain ⟨q73, eq73, h⟩ := z_bind h
                            refine z_callSV (pc := 257) (n := 2) (As := [.ref (ad 1), .int (iO w1)]) (rest := []) X hW hl (C5_daysOn l N 1 w1 (by decide) μ eq73) gX5_isDone_X5_daysOn rfl (by decide +kernel) rfl (by decide) rfl (Nat.le_of_ble_eq_true rfl) dX5_isDone_257 (fun H locs hW => ?_)
                            refine z_iconst (pc := 260) X.1 dX5_isDone_260 ?_
                            exact z_zret (pc := 261) X hW (by decide) (z_p1 h) (z_p2 h) dX5_isDone_261
                          · refine z_iconst (pc := 250) X.1 dX5_isDone_250 ?_
                            exact z_zret (pc := 251) X hW (by decide) (z_p1 h) (z_p2 h) dX5_isDone_251
                      · rw [if_neg c76] at h
                        by_cases c81 : a0 = 114
                        · rw [if_pos c81] at h
                          refine z_tin (pc := 15) (v := 114) (tgt := 178) X.1 dX5_isDone_15 c81 (by decide) (by decide) rfl (by decide) ?_
                          refine z_aload_n (pc := 178) X.1 hl 2 rfl rfl dX5_isDone_178 ?_
                          refine z_iload_n (pc := 179) X.1 hl 1 rfl rfl dX5_isDone_179 ?_
                          obtain ⟨q77, eq77, h⟩ := z_bind h
                          refine z_callV1I (pc := 180) (n := 1) (As := [.int (iO w1)]) (rest := []) X hW hl rfl (C5_isOne l N w1 μ eq77) gX5_isDone_X5_isOne rfl (by decide +kernel) rfl (by decide) rfl (Nat.le_of_ble_eq_true rfl) dX5_isDone_180 (fun H locs hW => ?_)
                          obtain ⟨g78, h⟩ := z_guard h
                          refine z_if_ne (pc := 183) (tgt := 188) X.1 dX5_isDone_183 (by decide) g78 h (fun c80 h => ?_) (fun c80 h => ?_)
                          · refine z_aload_n (pc := 188) X.1 hl 2 rfl rfl dX5_isDone_188 ?_
                            refine z_get1 (pc := 189) X.1 hW rfl iX5_isDone_1 0 (by decide) rfl (by decide +kernel) dX5_isDone_189 ?_
                            refine z_iload_n (pc := 192) X.1 hl 1 rfl rfl dX5_isDone_192 ?_
                            obtain ⟨q79, eq79, h⟩ := z_bind h
                            refine z_callSV (pc := 193) (n := 2) (As := [.ref (ad 1), .int (iO w1)]) (rest := []) X hW hl (C5_handsIn l N 1 w1 (by decide) μ eq79) gX5_isDone_X5_handsIn rfl (by decide +kernel) rfl (by decide) rfl (Nat.le_of_ble_eq_true rfl) dX5_isDone_193 (fun H locs hW => ?_)
                            refine z_iconst (pc := 196) X.1 dX5_isDone_196 ?_
                            exact z_zret (pc := 197) X hW (by decide) (z_p1 h) (z_p2 h) dX5_isDone_197
                          · refine z_iconst (pc := 186) X.1 dX5_isDone_186 ?_
                            exact z_zret (pc := 187) X hW (by decide) (z_p1 h) (z_p2 h) dX5_isDone_187
                        · rw [if_neg c81] at h
                          by_cases c88 : a0 = 115
                          · rw [if_pos c88] at h
                            refine z_tin (pc := 15) (v := 115) (tgt := 226) X.1 dX5_isDone_15 c88 (by decide) (by decide) rfl (by decide) ?_
                            refine z_iload_n (pc := 226) X.1 hl 1 rfl rfl dX5_isDone_226 ?_
                            refine z_iconst (pc := 227) X.1 dX5_isDone_227 ?_
                            refine z_bipush (pc := 228) X.1 dX5_isDone_228 (by decide) ?_
                            obtain ⟨q82, eq82, h⟩ := z_bind h
                            refine z_callSI (pc := 230) (n := 3) (As := [.int (iO w1), .int (iO 1), .int (iO 60)]) (rest := []) X hW hl (C5_isIn l N w1 1 60 μ eq82) gX5_isDone_X5_isIn rfl (by decide +kernel) rfl (by decide) rfl (Nat.le_of_ble_eq_true rfl) dX5_isDone_230 (fun H locs hW => ?_)
                            obtain ⟨g83, h⟩ := z_guard h
                            refine z_if_eq (pc := 233) (tgt := 250) X.1 dX5_isDone_233 (by decide) g83 h (fun c87 h => ?_) (fun c87 h => ?_)
                            · refine z_iconst (pc := 250) X.1 dX5_isDone_250 ?_
                              exact z_zret (pc := 251) X hW (by decide) (z_p1 h) (z_p2 h) dX5_isDone_251
                            · refine z_aload_n (pc := 236) X.1 hl 2 rfl rfl dX5_isDone_236 ?_
                              refine z_get1 (pc := 237) X.1 hW rfl iX5_isDone_1 0 (by decide) rfl (by decide +kernel) dX5_isDone_237 ?_
                              refine z_iconst (pc := 240) X.1 dX5_isDone_240 ?_
                              refine z_iald (pc := 241) X.1 hW rfl ⟨(by decide), (by decide)⟩ dX5_isDone_241 ?_
                              refine z_iload_n (pc := 242) X.1 hl 1 rfl rfl dX5_isDone_242 ?_
                              refine z_iadd (pc := 243) X.1 dX5_isDone_243 ?_
                              refine z_sipush (pc := 244) X.1 dX5_isDone_244 (by decide) ?_
                              obtain ⟨g84, h⟩ := z_guard h
                              refine z_icmp_le (pc := 247) (tgt := 252) X.1 dX5_isDone_247 (by decide) ⟨g84, (by decide)⟩ h (fun c86 h => ?_) (fun c86 h => ?_)
                              · refine z_aload_n (pc := 252) X.1 hl 2 rfl rfl dX5_isDone_252 ?_
                                refine z_get1 (pc := 253) X.1 hW rfl iX5_isDone_1 0 (by decide) rfl (by decide +kernel) dX5_isDone_253 ?_
                                refine z_iload_n (pc := 256) X.1 hl 1 rfl rfl dX5_isDone_256 ?_
                                obtain ⟨q85, eq85, h⟩ := z_bind h
                                refine z_callSV (pc := 257) (n := 2) (As := [.ref (ad 1), .int (iO w1)]) (rest := []) X hW hl (C5_daysOn l N 1 w1 (by decide) μ eq85) gX5_isDone_X5_daysOn rfl (by decide +kernel) rfl (by decide) rfl (Nat.le_of_ble_eq_true rfl) dX5_isDone_257 (fun H locs hW => ?_)
                                refine z_iconst (pc := 260) X.1 dX5_isDone_260 ?_
                                exact z_zret (pc := 261) X hW (by decide) (z_p1 h) (z_p2 h) dX5_isDone_261
                              · refine z_iconst (pc := 250) X.1 dX5_isDone_250 ?_
                                exact z_zret (pc := 251) X hW (by decide) (z_p1 h) (z_p2 h) dX5_isDone_251
                          · rw [if_neg c88] at h
                            by_cases c95 : a0 = 116
                            · rw [if_pos c95] at h
                              refine z_tin (pc := 15) (v := 116) (tgt := 226) X.1 dX5_isDone_15 c95 (by decide) (by decide) rfl (by decide) ?_
                              refine z_iload_n (pc := 226) X.1 hl 1 rfl rfl dX5_isDone_226 ?_
                              refine z_iconst (pc := 227) X.1 dX5_isDone_227 ?_
                              refine z_bipush (pc := 228) X.1 dX5_isDone_228 (by decide) ?_
                              obtain ⟨q89, eq89, h⟩ := z_bind h
                              refine z_callSI (pc := 230) (n := 3) (As := [.int (iO w1), .int (iO 1), .int (iO 60)]) (rest := []) X hW hl (C5_isIn l N w1 1 60 μ eq89) gX5_isDone_X5_isIn rfl (by decide +kernel) rfl (by decide) rfl (Nat.le_of_ble_eq_true rfl) dX5_isDone_230 (fun H locs hW => ?_)
                              obtain ⟨g90, h⟩ := z_guard h
                              refine z_if_eq (pc := 233) (tgt := 250) X.1 dX5_isDone_233 (by decide) g90 h (fun c94 h => ?_) (fun c94 h => ?_)
                              · refine z_iconst (pc := 250) X.1 dX5_isDone_250 ?_
                                exact z_zret (pc := 251) X hW (by decide) (z_p1 h) (z_p2 h) dX5_isDone_251
                              · refine z_aload_n (pc := 236) X.1 hl 2 rfl rfl dX5_isDone_236 ?_
                                refine z_get1 (pc := 237) X.1 hW rfl iX5_isDone_1 0 (by decide) rfl (by decide +kernel) dX5_isDone_237 ?_
                                refine z_iconst (pc := 240) X.1 dX5_isDone_240 ?_
                                refine z_iald (pc := 241) X.1 hW rfl ⟨(by decide), (by decide)⟩ dX5_isDone_241 ?_
                                refine z_iload_n (pc := 242) X.1 hl 1 rfl rfl dX5_isDone_242 ?_
                                refine z_iadd (pc := 243) X.1 dX5_isDone_243 ?_
                                refine z_sipush (pc := 244) X.1 dX5_isDone_244 (by decide) ?_
                                obtain ⟨g91, h⟩ := z_guard h
                                refine z_icmp_le (pc := 247) (tgt := 252) X.1 dX5_isDone_247 (by decide) ⟨g91, (by decide)⟩ h (fun c93 h => ?_) (fun c93 h => ?_)
                                · refine z_aload_n (pc := 252) X.1 hl 2 rfl rfl dX5_isDone_252 ?_
                                  refine z_get1 (pc := 253) X.1 hW rfl iX5_isDone_1 0 (by decide) rfl (by decide +kernel) dX5_isDone_253 ?_
                                  refine z_iload_n (pc := 256) X.1 hl 1 rfl rfl dX5_isDone_256 ?_
                                  obtain ⟨q92, eq92, h⟩ := z_bind h
                                  refine z_callSV (pc := 257) (n := 2) (As := [.ref (ad 1), .int (iO w1)]) (rest := []) X hW hl (C5_daysOn l N 1 w1 (by decide) μ eq92) gX5_isDone_X5_daysOn rfl (by decide +kernel) rfl (by decide) rfl (Nat.le_of_ble_eq_true rfl) dX5_isDone_257 (fun H locs hW => ?_)
                                  refine z_iconst (pc := 260) X.1 dX5_isDone_260 ?_
                                  exact z_zret (pc := 261) X hW (by decide) (z_p1 h) (z_p2 h) dX5_isDone_261
                                · refine z_iconst (pc := 250) X.1 dX5_isDone_250 ?_
                                  exact z_zret (pc := 251) X hW (by decide) (z_p1 h) (z_p2 h) dX5_isDone_251
                            · rw [if_neg c95] at h
                              by_cases c103 : a0 = 117
                              · rw [if_pos c103] at h
                                refine z_tin (pc := 15) (v := 117) (tgt := 149) X.1 dX5_isDone_15 c103 (by decide) (by decide) rfl (by decide) ?_
                                refine z_aload_n (pc := 149) X.1 hl 2 rfl rfl dX5_isDone_149 ?_
                                refine z_iload_n (pc := 150) X.1 hl 1 rfl rfl dX5_isDone_150 ?_
                                obtain ⟨q96, eq96, h⟩ := z_bind h
                                refine z_callV1I (pc := 151) (n := 1) (As := [.int (iO w1)]) (rest := []) X hW hl rfl (C5_isOne l N w1 μ eq96) gX5_isDone_X5_isOne rfl (by decide +kernel) rfl (by decide) rfl (Nat.le_of_ble_eq_true rfl) dX5_isDone_151 (fun H locs hW => ?_)
                                obtain ⟨g97, h⟩ := z_guard h
                                refine z_if_eq (pc := 154) (tgt := 163) X.1 dX5_isDone_154 (by decide) g97 h (fun c102 h => ?_) (fun c102 h => ?_)
                                · refine z_iconst (pc := 163) X.1 dX5_isDone_163 ?_
                                  exact z_zret (pc := 164) X hW (by decide) (z_p1 h) (z_p2 h) dX5_isDone_164
                                · refine z_iload_n (pc := 157) X.1 hl 0 rfl rfl dX5_isDone_157 ?_
                                  refine z_bipush (pc := 158) X.1 dX5_isDone_158 (by decide) ?_
                                  obtain ⟨g98, h⟩ := z_guard h
                                  refine z_icmp_le (pc := 160) (tgt := 165) X.1 dX5_isDone_160 (by decide) ⟨g98, (by decide)⟩ h (fun c101 h => ?_) (fun c101 h => ?_)
                                  · refine z_aload_n (pc := 165) X.1 hl 2 rfl rfl dX5_isDone_165 ?_
                                    refine z_get1 (pc := 166) X.1 hW rfl iX5_isDone_1 0 (by decide) rfl (by decide +kernel) dX5_isDone_166 ?_
                                    refine z_iload_n (pc := 169) X.1 hl 1 rfl rfl dX5_isDone_169 ?_
                                    refine z_iconst (pc := 170) X.1 dX5_isDone_170 ?_
                                    refine z_callSI (pc := 171) (n := 2) (As := [.int (iO w1), .int (iO 3)]) (rest := [.ref (ad 1)]) X hW hl (C5_of l N w1 3 μ) gX5_isDone_X5_of rfl (by decide +kernel) rfl (by decide) rfl (Nat.le_of_ble_eq_true rfl) dX5_isDone_171 (fun H locs hW => ?_)
                                    refine z_iload_n (pc := 174) X.1 hl 0 rfl rfl dX5_isDone_174 ?_
                                    obtain ⟨g99, h⟩ := z_guard h
                                    obtain ⟨μ100, eμ100, h⟩ := z_bnd h
                                    refine z_iast (pc := 175) X.1 hW rfl ⟨g99.1, g99.2⟩ dX5_isDone_175 (fun H locs hW => ?_)
                                    replace hW : zW D cy ad A s.heap μ100 H locs := by rw [eμ100]; exact hW
                                    refine z_iconst (pc := 176) X.1 dX5_isDone_176 ?_
                                    exact z_zret (pc := 177) X hW (by decide) (z_p1 h) (z_p2 h) dX5_isDone_177
                                  · refine z_iconst (pc := 163) X.1 dX5_isDone_163 ?_
                                    exact z_zret (pc := 164) X hW (by decide) (z_p1 h) (z_p2 h) dX5_isDone_164
                              · rw [if_neg c103] at h
                                refine z_tout (pc := 15) (tgt := 226) X.1 dX5_isDone_15 g3 (by omega) (by decide) ?_
                                refine z_iload_n (pc := 226) X.1 hl 1 rfl rfl dX5_isDone_226 ?_
                                refine z_iconst (pc := 227) X.1 dX5_isDone_227 ?_
                                refine z_bipush (pc := 228) X.1 dX5_isDone_228 (by decide) ?_
                                obtain ⟨q104, eq104, h⟩ := z_bind h
                                refine z_callSI (pc := 230) (n := 3) (As := [.int (iO w1), .int (iO 1), .int (iO 60)]) (rest := []) X hW hl (C5_isIn l N w1 1 60 μ eq104) gX5_isDone_X5_isIn rfl (by decide +kernel) rfl (by decide) rfl (Nat.le_of_ble_eq_true rfl) dX5_isDone_230 (fun H locs hW => ?_)
                                obtain ⟨g105, h⟩ := z_guard h
                                refine z_if_eq (pc := 233) (tgt := 250) X.1 dX5_isDone_233 (by decide) g105 h (fun c109 h => ?_) (fun c109 h => ?_)
                                · refine z_iconst (pc := 250) X.1 dX5_isDone_250 ?_
                                  exact z_zret (pc := 251) X hW (by decide) (z_p1 h) (z_p2 h) dX5_isDone_251
                                · refine z_aload_n (pc := 236) X.1 hl 2 rfl rfl dX5_isDone_236 ?_
                                  refine z_get1 (pc := 237) X.1 hW rfl iX5_isDone_1 0 (by decide) rfl (by decide +kernel) dX5_isDone_237 ?_
                                  refine z_iconst (pc := 240) X.1 dX5_isDone_240 ?_
                                  refine z_iald (pc := 241) X.1 hW rfl ⟨(by decide), (by decide)⟩ dX5_isDone_241 ?_
                                  refine z_iload_n (pc := 242) X.1 hl 1 rfl rfl dX5_isDone_242 ?_
                                  refine z_iadd (pc := 243) X.1 dX5_isDone_243 ?_
                                  refine z_sipush (pc := 244) X.1 dX5_isDone_244 (by decide) ?_
                                  obtain ⟨g106, h⟩ := z_guard h
                                  refine z_icmp_le (pc := 247) (tgt := 252) X.1 dX5_isDone_247 (by decide) ⟨g106, (by decide)⟩ h (fun c108 h => ?_) (fun c108 h => ?_)
                                  · refine z_aload_n (pc := 252) X.1 hl 2 rfl rfl dX5_isDone_252 ?_
                                    refine z_get1 (pc := 253) X.1 hW rfl iX5_isDone_1 0 (by decide) rfl (by decide +kernel) dX5_isDone_253 ?_
                                    refine z_iload_n (pc := 256) X.1 hl 1 rfl rfl dX5_isDone_256 ?_
                                    obtain ⟨q107, eq107, h⟩ := z_bind h
                                    refine z_callSV (pc := 257) (n := 2) (As := [.ref (ad 1), .int (iO w1)]) (rest := []) X hW hl (C5_daysOn l N 1 w1 (by decide) μ eq107) gX5_isDone_X5_daysOn rfl (by decide +kernel) rfl (by decide) rfl (Nat.le_of_ble_eq_true rfl) dX5_isDone_257 (fun H locs hW => ?_)
                                    refine z_iconst (pc := 260) X.1 dX5_isDone_260 ?_
                                    exact z_zret (pc := 261) X hW (by decide) (z_p1 h) (z_p2 h) dX5_isDone_261
                                  · refine z_iconst (pc := 250) X.1 dX5_isDone_250 ?_
                                    exact z_zret (pc := 251) X hW (by decide) (z_p1 h) (z_p2 h) dX5_isDone_251
