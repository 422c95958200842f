-- X5_lacksOf
theorem iX5_lacksOf_1 : ∀ w ∈ wsX50, w ∈ wsX5_lacksOf := by decide +kernel
section
variable {p : Program} {l : Launch} {e : Env} {s : State} {m : MethodId} {args : Array Value} {below : List Frame} {meth : Method} {c : Code} {D : va_G} {cy : ClassId × ClassId} {ad : Nat → Nat} {A : Nat → Prop} {res : Int} {μ0 : mm}
theorem CJ5_lacksOf_35 (X : zX p s m args meth c cX5_lacksOf RX5 wsX5_lacksOf 4 D cy ad (some .int) A) (N : Nat) (rec4 : Int → Int → Int → mm → Option Int) (hrec4 : ∀ (x1 : Int) (x2 : Int) (x3 : Int) (μ : mm) (_ : μ = μ0), rec4 x1 x2 x3 μ = some res → ∀ (H : Heap) (locs : List Loc) (ls : Array Slot), zW D cy ad A s.heap μ H locs → lv_has ls 4 [(0, .ref (ad 0)), (1, .int (iO x1)), (2, .int (iO x2)), (3, .int (iO x3))] → W p l e (rmD 3) s m args below meth c H locs 0 0 (MQ below (zQi D cy ad A res μ0) args s 0 0 A) (F0 m 4 ls [])) : ∀ (x1 : Int) (x3 : Int) (y0 : Int) (y1 : Int) (μ : mm) (_ : μ = μ0), J5_lacksOf_35 N rec4 x1 x3 y0 y1 μ = some res → ∀ (H : Heap) (locs : List Loc) (ls : Array Slot), zW D cy ad A s.heap μ H locs → lv_has ls 4 [(0, .ref (ad 0)), (1, .int (iO x1)), (3, .int (iO x3))] → W p l e (rmD 3) s m args below meth c H locs 0 0 (MQ below (zQi D cy ad A res μ0) args s 0 0 A) (F0 m 35 ls [.int (iO y0), .int (iO y1)]) := by
  intro x1 x3 y0 y1 μ em h H locs ls hW hl
  rw [J5_lacksOf_35] at h
  refine z_iadd (pc := 35) X.1 dX5_lacksOf_35 ?_
  obtain ⟨w4, ew4, h⟩ := z_bnd h
  refine z_istore_n (pc := 36) (i := 2) X.1 [(2, .int (iO w4)), (0, .ref (ad 0)), (1, .int (iO x1)), (3, .int (iO x3))] hl ew4 rfl (by decide) rfl dX5_lacksOf_36 (fun ls hl => ?_)
  refine z_iinc (pc := 37) (i := 3) X.1 [(3, .int (iO (x3 + 1))), (2, .int (iO w4)), (0, .ref (ad 0)), (1, .int (iO x1))] hl 3 rfl rfl (by decide) rfl dX5_lacksOf_37 (fun ls hl => ?_)
  refine z_goto (pc := 40) (tgt := 4) X.1 dX5_lacksOf_40 (by decide) ?_
  exact hrec4 x1 w4 (x3 + 1) μ em h _ _ ls hW (lv_sub hl [2, 3, 1, 0] rfl)
theorem CL5_lacksOf_4 (X : zX p s m args meth c cX5_lacksOf RX5 wsX5_lacksOf 4 D cy ad (some .int) A) (N : Nat) : ∀ (k : Nat) (x1 : Int) (x2 : Int) (x3 : Int) (μ : mm) (_ : μ = μ0), L5_lacksOf_4 N k x1 x2 x3 μ = some res → ∀ (H : Heap) (locs : List Loc) (ls : Array Slot), zW D cy ad A s.heap μ H locs → lv_has ls 4 [(0, .ref (ad 0)), (1, .int (iO x1)), (2, .int (iO x2)), (3, .int (iO x3))] → W p l e (rmD 3) s m args below meth c H locs 0 0 (MQ below (zQi D cy ad A res μ0) args s 0 0 A) (F0 m 4 ls []) := by
  intro k
  induction k with
  | zero =>
    intro x1 x2 x3 μ em h H locs ls hW hl
    exact absurd h (by rw [L5_lacksOf_4]; exact fun z => by cases z)
  | succ k ih =>
    intro x1 x2 x3 μ em h H locs ls hW hl
    rw [L5_lacksOf_4] at h
    refine z_iload_n (pc := 4) X.1 hl 3 rfl rfl dX5_lacksOf_4 ?_
    refine z_aload_n (pc := 5) X.1 hl 0 rfl rfl dX5_lacksOf_5 ?_
    refine z_get1 (pc := 6) X.1 hW rfl iX5_lacksOf_1 0 (by decide) rfl (by decide +kernel) dX5_lacksOf_6 ?_
    refine z_iconst (pc := 9) X.1 dX5_lacksOf_9 ?_
    refine z_iald (pc := 10) X.1 hW rfl ⟨(by decide), (by decide)⟩ dX5_lacksOf_10 ?_
    obtain ⟨g1, h⟩ := z_guard h
    refine z_icmp_ge (pc := 11) (tgt := 43) X.1 dX5_lacksOf_11 (by decide) ⟨g1.1, g1.2⟩ h (fun c7 h => ?_) (fun c7 h => ?_)
    · refine z_iload_n (pc := 43) X.1 hl 2 rfl rfl dX5_lacksOf_43 ?_
      exact z_iret (pc := 44) X hW (Option.some.inj h) em dX5_lacksOf_44
    · refine z_iload_n (pc := 14) X.1 hl 2 rfl rfl dX5_lacksOf_14 ?_
      refine z_iload_n (pc := 15) X.1 hl 1 rfl rfl dX5_lacksOf_15 ?_
      refine z_iload_n (pc := 16) X.1 hl 3 rfl rfl dX5_lacksOf_16 ?_
      obtain ⟨q2, eq2, h⟩ := z_bind h
      refine z_callSI (pc := 17) (n := 2) (As := [.int (iO x1), .int (iO x3)]) (rest := [.int (iO x2)]) X hW hl (C5_has l N x1 x3 μ eq2) gX5_lacksOf_X5_has rfl (by decide +kernel) rfl (by decide) rfl (Nat.le_of_ble_eq_true rfl) dX5_lacksOf_17 (fun H locs hW => ?_)
      obtain ⟨g3, h⟩ := z_guard h
      refine z_if_eq (pc := 20) (tgt := 34) X.1 dX5_lacksOf_20 (by decide) g3 h (fun c6 h => ?_) (fun c6 h => ?_)
      · refine z_iconst (pc := 34) X.1 dX5_lacksOf_34 ?_
        exact CJ5_lacksOf_35 X N (L5_lacksOf_4 N k) ih x1 x3 0 x2 μ em h _ _ ls hW (lv_sub hl [0, 1, 3] rfl)
      · refine z_aload_n (pc := 23) X.1 hl 0 rfl rfl dX5_lacksOf_23 ?_
        refine z_get1 (pc := 24) X.1 hW rfl iX5_lacksOf_1 0 (by decide) rfl (by decide +kernel) dX5_lacksOf_24 ?_
        refine z_iload_n (pc := 27) X.1 hl 3 rfl rfl dX5_lacksOf_27 ?_
        obtain ⟨q5, eq5, h⟩ := z_bind h
        refine z_callSI (pc := 28) (n := 2) (As := [.ref (ad 1), .int (iO x3)]) (rest := [.int (iO x2)]) X hW hl (C5_lacksIn l N 1 x3 (by decide) μ eq5) gX5_lacksOf_X5_lacksIn rfl (by decide +kernel) rfl (by decide) rfl (Nat.le_of_ble_eq_true rfl) dX5_lacksOf_28 (fun H locs hW => ?_)
        refine z_goto (pc := 31) (tgt := 35) X.1 dX5_lacksOf_31 (by decide) ?_
        exact CJ5_lacksOf_35 X N (L5_lacksOf_4 N k) ih x1 x3 q5 x2 μ em h _ _ ls hW (lv_sub hl [0, 1, 3] rfl)
end
theorem C5_lacksOf (l : Launch) {D : va_G} {cy : ClassId × ClassId} {ad : Nat → Nat} (N : Nat) (a0 : Int) (μ0 : mm) {res : Int} (h : M5_lacksOf N a0 μ0 = some res) : zI l yX5_lacksOf wsX5_lacksOf 3 D cy ad [.ref (ad 0), .int (iO a0)] μ0 res μ0 := by
  refine zI.of RX5 rfl (by decide) rfl (Nat.le_of_ble_eq_true rfl) ?_
  intro p e s m args below meth c A X hW ls hl
  have hl : lv_has ls 4 [(0, .ref (ad 0)), (1, .int (iO a0))] := hl
  unfold M5_lacksOf at h
  refine z_iconst (pc := 0) X.1 dX5_lacksOf_0 ?_
  refine z_istore_n (pc := 1) (i := 2) X.1 [(2, .int (iO 0)), (0, .ref (ad 0)), (1, .int (iO a0))] hl rfl rfl (by decide) rfl dX5_lacksOf_1 (fun ls hl => ?_)
  refine z_iconst (pc := 2) X.1 dX5_lacksOf_2 ?_
  refine z_istore_n (pc := 3) (i := 3) X.1 [(3, .int (iO 0)), (2, .int (iO 0)), (0, .ref (ad 0)), (1, .int (iO a0))] hl rfl rfl (by decide) rfl dX5_lacksOf_3 (fun ls hl => ?_)
  exact CL5_lacksOf_4 X N N a0 0 0 μ0 rfl h _ _ ls hW (lv_sub hl [2, 3, 1, 0] rfl)
-- X5_lacking
theorem iX5_lacking_1 : ∀ w ∈ wsX50, w ∈ wsX5_lacking := by decide +kernel
section
variable {p : Program} {l : Launch} {e : Env} {s : State} {m : MethodId} {args : Array Value} {below : List Frame} {meth : Method} {c : Code} {D : va_G} {cy : ClassId × ClassId} {ad : Nat → Nat} {A : Nat → Prop} {res : Int} {μ0 : mm}
theorem CJ5_lacking_33 (X : zX p s m args meth c cX5_lacking RX5 wsX5_lacking 3 D cy ad (some .int) A) (N : Nat) (rec4 : Int → Int → mm → Option Int) (hrec4 : ∀ (x1 : Int) (x2 : Int) (μ : mm) (_ : μ = μ0), rec4 x1 x2 μ = some res → ∀ (H : Heap) (locs : List Loc) (ls : Array Slot), zW D cy ad A s.heap μ H locs → lv_has ls 3 [(0, .ref (ad 0)), (1, .int (iO x1)), (2, .int (iO x2))] → W p l e (rmD 3) s m args below meth c H locs 0 0 (MQ below (zQi D cy ad A res μ0) args s 0 0 A) (F0 m 4 ls [])) : ∀ (x2 : Int) (y0 : Int) (y1 : Int) (μ : mm) (_ : μ = μ0), J5_lacking_33 N rec4 x2 y0 y1 μ = some res → ∀ (H : Heap) (locs : List Loc) (ls : Array Slot), zW D cy ad A s.heap μ H locs → lv_has ls 3 [(0, .ref (ad 0)), (2, .int (iO x2))] → W p l e (rmD 3) s m args below meth c H locs 0 0 (MQ below (zQi D cy ad A res μ0) args s 0 0 A) (F0 m 33 ls [.int (iO y0), .int (iO y1)]) := by
  intro x2 y0 y1 μ em h H locs ls hW hl
  rw [J5_lacking_33] at h
  refine z_ior (pc := 33) X.1 dX5_lacking_33 ?_
  obtain ⟨w4, ew4, h⟩ := z_bnd h
  refine z_istore_n (pc := 34) (i := 1) X.1 [(1, .int (iO w4)), (0, .ref (ad 0)), (2, .int (iO x2))] hl ew4 rfl (by decide) rfl dX5_lacking_34 (fun ls hl => ?_)
  refine z_iinc (pc := 35) (i := 2) X.1 [(2, .int (iO (x2 + 1))), (1, .int (iO w4)), (0, .ref (ad 0))] hl 2 rfl rfl (by decide) rfl dX5_lacking_35 (fun ls hl => ?_)
  refine z_goto (pc := 38) (tgt := 4) X.1 dX5_lacking_38 (by decide) ?_
  exact hrec4 w4 (x2 + 1) μ em h _ _ ls hW (lv_sub hl [2, 1, 0] rfl)
theorem CL5_lacking_4 (X : zX p s m args meth c cX5_lacking RX5 wsX5_lacking 3 D cy ad (some .int) A) (N : Nat) : ∀ (k : Nat) (x1 : Int) (x2 : Int) (μ : mm) (_ : μ = μ0), L5_lacking_4 N k x1 x2 μ = some res → ∀ (H : Heap) (locs : List Loc) (ls : Array Slot), zW D cy ad A s.heap μ H locs → lv_has ls 3 [(0, .ref (ad 0)), (1, .int (iO x1)), (2, .int (iO x2))] → W p l e (rmD 3) s m args below meth c H locs 0 0 (MQ below (zQi D cy ad A res μ0) args s 0 0 A) (F0 m 4 ls []) := by
  intro k
  induction k with
  | zero =>
    intro x1 x2 μ em h H locs ls hW hl
    exact absurd h (by rw [L5_lacking_4]; exact fun z => by cases z)
  | succ k ih =>
    intro x1 x2 μ em h H locs ls hW hl
    rw [L5_lacking_4] at h
    refine z_iload_n (pc := 4) X.1 hl 2 rfl rfl dX5_lacking_4 ?_
    refine z_aload_n (pc := 5) X.1 hl 0 rfl rfl dX5_lacking_5 ?_
    refine z_get1 (pc := 6) X.1 hW rfl iX5_lacking_1 0 (by decide) rfl (by decide +kernel) dX5_lacking_6 ?_
    refine z_iconst (pc := 9) X.1 dX5_lacking_9 ?_
    refine z_iald (pc := 10) X.1 hW rfl ⟨(by decide), (by decide)⟩ dX5_lacking_10 ?_
    obtain ⟨g1, h⟩ := z_guard h
    refine z_icmp_ge (pc := 11) (tgt := 41) X.1 dX5_lacking_11 (by decide) ⟨g1.1, g1.2⟩ h (fun c7 h => ?_) (fun c7 h => ?_)
    · refine z_iload_n (pc := 41) X.1 hl 1 rfl rfl dX5_lacking_41 ?_
      exact z_iret (pc := 42) X hW (Option.some.inj h) em dX5_lacking_42
    · refine z_iload_n (pc := 14) X.1 hl 1 rfl rfl dX5_lacking_14 ?_
      refine z_aload_n (pc := 15) X.1 hl 0 rfl rfl dX5_lacking_15 ?_
      refine z_get1 (pc := 16) X.1 hW rfl iX5_lacking_1 0 (by decide) rfl (by decide +kernel) dX5_lacking_16 ?_
      refine z_iload_n (pc := 19) X.1 hl 2 rfl rfl dX5_lacking_19 ?_
      obtain ⟨q2, eq2, h⟩ := z_bind h
      refine z_callSI (pc := 20) (n := 2) (As := [.ref (ad 1), .int (iO x2)]) (rest := [.int (iO x1)]) X hW hl (C5_lacksIn l N 1 x2 (by decide) μ eq2) gX5_lacking_X5_lacksIn rfl (by decide +kernel) rfl (by decide) rfl (Nat.le_of_ble_eq_true rfl) dX5_lacking_20 (fun H locs hW => ?_)
      obtain ⟨g3, h⟩ := z_guard h
      refine z_if_le (pc := 23) (tgt := 32) X.1 dX5_lacking_23 (by decide) g3 h (fun c6 h => ?_) (fun c6 h => ?_)
      · refine z_iconst (pc := 32) X.1 dX5_lacking_32 ?_
        exact CJ5_lacking_33 X N (L5_lacking_4 N k) ih x2 0 x1 μ em h _ _ ls hW (lv_sub hl [0, 2] rfl)
      · refine z_iconst (pc := 26) X.1 dX5_lacking_26 ?_
        refine z_iload_n (pc := 27) X.1 hl 2 rfl rfl dX5_lacking_27 ?_
        obtain ⟨g5, h⟩ := z_guard h
        refine z_ishl (pc := 28) X.1 dX5_lacking_28 ⟨g5.1, g5.2⟩ ?_
        refine z_goto (pc := 29) (tgt := 33) X.1 dX5_lacking_29 (by decide) ?_
        exact CJ5_lacking_33 X N (L5_lacking_4 N k) ih x2 (1 * 2 ^ (x2 : Int).toNat) x1 μ em h _ _ ls hW (lv_sub hl [0, 2] rfl)
end
theorem C5_lacking (l : Launch) {D : va_G} {cy : ClassId × ClassId} {ad : Nat → Nat} (N : Nat)  (μ0 : mm) {res : Int} (h : M5_lacking N μ0 = some res) : zI l yX5_lacking wsX5_lacking 3 D cy ad [.ref (ad 0)] μ0 res μ0 := by
  refine zI.of RX5 rfl (by decide) rfl (Nat.le_of_ble_eq_true rfl) ?_
  intro p e s m args below meth c A X hW ls hl
  have hl : lv_has ls 3 [(0, .ref (ad 0))] := hl
  unfold M5_lacking at h
  refine z_iconst (pc := 0) X.1 dX5_lacking_0 ?_
  refine z_istore_n (pc := 1) (i := 1) X.1 [(1, .int (iO 0)), (0, .ref (ad 0))] hl rfl rfl (by decide) rfl dX5_lacking_1 (fun ls hl => ?_)
  refine z_iconst (pc := 2) X.1 dX5_lacking_2 ?_
  refine z_istore_n (pc := 3) (i := 2) X.1 [(2, .int (iO 0)), (1, .int (iO 0)), (0, .ref (ad 0))] hl rfl rfl (by decide) rfl dX5_lacking_3 (fun ls hl => ?_)
  exact CL5_lacking_4 X N N 0 0 μ0 rfl h _ _ ls hW (lv_sub hl [2, 1, 0] rfl)
-- X5_serve
theorem iX5_serve_1 : ∀ w ∈ wsX50, w ∈ wsX5_serve := by decide +kernel
section
variable {p : Program} {l : Launch} {e : Env} {s : State} {m : MethodId} {args : Array Value} {below : List Frame} {meth : Method} {c : Code} {D : va_G} {cy : ClassId × ClassId} {ad : Nat → Nat} {A : Nat → Prop} {res : (Int × mm)}
theorem CJ5_serve_71 (X : zX p s m args meth c cX5_serve RX5 wsX5_serve 5 D cy ad (some .int) A) (N : Nat) (rec26 : Int → Int → Int → Int → mm → Option (Int × mm)) (hrec26 : ∀ (x1 : Int) (x2 : Int) (x3 : Int) (x4 : Int) (μ : mm), rec26 x1 x2 x3 x4 μ = some res → ∀ (H : Heap) (locs : List Loc) (ls : Array Slot), zW D cy ad A s.heap μ H locs → lv_has ls 5 [(0, .ref (ad 0)), (1, .int (iO x1)), (2, .int (iO x2)), (3, .int (iO x3)), (4, .int (iO x4))] → W p l e (rmD 4) s m args below meth c H locs 0 0 (MQ below (zQi D cy ad A res.1 res.2) args s 0 0 A) (F0 m 26 ls [])) : ∀ (x1 : Int) (x2 : Int) (x3 : Int) (x4 : Int) (μ : mm), J5_serve_71 N rec26 x1 x2 x3 x4 μ = some res → ∀ (H : Heap) (locs : List Loc) (ls : Array Slot), zW D cy ad A s.heap μ H locs → lv_has ls 5 [(0, .ref (ad 0)), (1, .int (iO x1)), (2, .int (iO x2)), (3, .int (iO x3)), (4, .int (iO x4))] → W p l e (rmD 4) s m args below meth c H locs 0 0 (MQ below (zQi D cy ad A res.1 res.2) args s 0 0 A) (F0 m 71 ls []) := by
  intro x1 x2 x3 x4 μ h H locs ls hW hl
  rw [J5_serve_71] at h
  refine z_iinc (pc := 71) (i := 4) X.1 [(4, .int (iO (x4 + 1))), (0, .ref (ad 0)), (1, .int (iO x1)), (2, .int (iO x2)), (3, .int (iO x3))] hl 4 rfl rfl (by decide) rfl dX5_serve_71 (fun ls hl => ?_)
  refine z_goto (pc := 74) (tgt := 26) X.1 dX5_serve_74 (by decide) ?_
  exact hrec26 x1 x2 x3 (x4 + 1) μ h _ _ ls hW (lv_sub hl [1, 2, 3, 4, 0] rfl)
theorem CL5_serve_26 (X : zX p s m args meth c cX5_serve RX5 wsX5_serve 5 D cy ad (some .int) A) (N : Nat) : ∀ (k : Nat) (x1 : Int) (x2 : Int) (x3 : Int) (x4 : Int) (μ : mm), L5_serve_26 N k x1 x2 x3 x4 μ = some res → ∀ (H : Heap) (locs : List Loc) (ls : Array Slot), zW D cy ad A s.heap μ H locs → lv_has ls 5 [(0, .ref (ad 0)), (1, .int (iO x1)), (2, .int (iO x2)), (3, .int (iO x3)), (4, .int (iO x4))] → W p l e (rmD 4) s m args below meth c H locs 0 0 (MQ below (zQi D cy ad A res.1 res.2) args s 0 0 A) (F0 m 26 ls []) := by
  intro k
  induction k with
  | zero =>
    intro x1 x2 x3 x4 μ h H locs ls hW hl
    exact absurd h (by rw [L5_serve_26]; exact fun z => by cases z)
  | succ k ih =>
    intro x1 x2 x3 x4 μ h H locs ls hW hl
    rw [L5_serve_26] at h
    refine z_iload (pc := 26) X.1 hl 4 rfl dX5_serve_26 ?_
    refine z_iload_n (pc := 28) X.1 hl 2 rfl rfl dX5_serve_28 ?_
    obtain ⟨g4, h⟩ := z_guard h
    refine z_icmp_gt (pc := 29) (tgt := 77) X.1 dX5_serve_29 (by decide) ⟨g4.1, g4.2⟩ h (fun c20 h => ?_) (fun c20 h => ?_)
    · refine z_iload_n (pc := 77) X.1 hl 1 rfl rfl dX5_serve_77 ?_
      obtain ⟨g5, h⟩ := z_guard h
      refine z_if_ne (pc := 78) (tgt := 88) X.1 dX5_serve_78 (by decide) g5 h (fun c10 h => ?_) (fun c10 h => ?_)
      · refine z_iload_n (pc := 88) X.1 hl 1 rfl rfl dX5_serve_88 ?_
        refine z_iconst (pc := 89) X.1 dX5_serve_89 ?_
        obtain ⟨g6, h⟩ := z_guard h
        refine z_icmp_ne (pc := 90) (tgt := 97) X.1 dX5_serve_90 (by decide) ⟨g6, (by decide)⟩ h (fun c8 h => ?_) (fun c8 h => ?_)
        · refine z_aload_n (pc := 97) X.1 hl 0 rfl rfl dX5_serve_97 ?_
          refine z_get1 (pc := 98) X.1 hW rfl iX5_serve_1 0 (by decide) rfl (by decide +kernel) dX5_serve_98 ?_
          refine z_iconst (pc := 101) X.1 dX5_serve_101 ?_
          refine z_iald (pc := 102) X.1 hW rfl ⟨(by decide), (by decide)⟩ dX5_serve_102 ?_
          refine z_aload_n (pc := 103) X.1 hl 0 rfl rfl dX5_serve_103 ?_
          refine z_iload_n (pc := 104) X.1 hl 3 rfl rfl dX5_serve_104 ?_
          obtain ⟨q7, eq7, h⟩ := z_bind h
          refine z_callV1I (pc := 105) (n := 1) (As := [.int (iO x3)]) (rest := [.int (iO (μ 1 2))]) X hW hl rfl (C5_lacksOf l N x3 μ eq7) gX5_serve_X5_lacksOf rfl (by decide +kernel) rfl (by decide) rfl (Nat.le_of_ble_eq_true rfl) dX5_serve_105 (fun H locs hW => ?_)
          refine z_isub (pc := 108) X.1 dX5_serve_108 ?_
          exact z_iret (pc := 109) X hW (z_p1 h) (z_p2 h) dX5_serve_109
        · refine z_iload_n (pc := 93) X.1 hl 3 rfl rfl dX5_serve_93 ?_
          refine z_goto (pc := 94) (tgt := 109) X.1 dX5_serve_94 (by decide) ?_
          exact z_iret (pc := 109) X hW (z_p1 h) (z_p2 h) dX5_serve_109
      · refine z_iload_n (pc := 81) X.1 hl 3 rfl rfl dX5_serve_81 ?_
        obtain ⟨q9, eq9, h⟩ := z_bind h
        refine z_callSI (pc := 82) (n := 1) (As := [.int (iO x3)]) (rest := []) X hW hl (C5_bits l N x3 μ eq9) gX5_serve_X5_bits rfl (by decide +kernel) rfl (by decide) rfl (Nat.le_of_ble_eq_true rfl) dX5_serve_82 (fun H locs hW => ?_)
        refine z_goto (pc := 85) (tgt := 109) X.1 dX5_serve_85 (by decide) ?_
        exact z_iret (pc := 109) X hW (z_p1 h) (z_p2 h) dX5_serve_109
    · refine z_iload (pc := 32) X.1 hl 4 rfl dX5_serve_32 ?_
      refine z_iload_n (pc := 34) X.1 hl 2 rfl rfl dX5_serve_34 ?_
      refine z_iconst (pc := 35) X.1 dX5_serve_35 ?_
      refine z_ixor (pc := 36) X.1 dX5_serve_36 ?_
      refine z_iand (pc := 37) X.1 dX5_serve_37 ?_
      obtain ⟨g11, h⟩ := z_guard h
      refine z_if_ne (pc := 38) (tgt := 71) X.1 dX5_serve_38 (by decide) g11 h (fun c19 h => ?_) (fun c19 h => ?_)
      · exact CJ5_serve_71 X N (L5_serve_26 N k) ih x1 x2 x3 x4 μ h _ _ ls hW (lv_sub hl [0, 1, 2, 3, 4] rfl)
      · refine z_iload (pc := 41) X.1 hl 4 rfl dX5_serve_41 ?_
        obtain ⟨q12, eq12, h⟩ := z_bind h
        refine z_callSI (pc := 43) (n := 1) (As := [.int (iO x4)]) (rest := []) X hW hl (C5_bits l N x4 μ eq12) gX5_serve_X5_bits rfl (by decide +kernel) rfl (by decide) rfl (Nat.le_of_ble_eq_true rfl) dX5_serve_43 (fun H locs hW => ?_)
        refine z_iload_n (pc := 46) X.1 hl 3 rfl rfl dX5_serve_46 ?_
        obtain ⟨q13, eq13, h⟩ := z_bind h
        refine z_callSI (pc := 47) (n := 1) (As := [.int (iO x3)]) (rest := [.int (iO q12)]) X hW hl (C5_bits l N x3 μ eq13) gX5_serve_X5_bits rfl (by decide +kernel) rfl (by decide) rfl (Nat.le_of_ble_eq_true rfl) dX5_serve_47 (fun H locs hW => ?_)
        obtain ⟨g14, h⟩ := z_guard h
        refine z_icmp_le (pc := 50) (tgt := 71) X.1 dX5_serve_50 (by decide) ⟨g14.1, g14.2⟩ h (fun c18 h => ?_) (fun c18 h => ?_)
        · exact CJ5_serve_71 X N (L5_serve_26 N k) ih x1 x2 x3 x4 μ h _ _ ls hW (lv_sub hl [0, 1, 2, 3, 4] rfl)
        · refine z_aload_n (pc := 53) X.1 hl 0 rfl rfl dX5_serve_53 ?_
          refine z_iload (pc := 54) X.1 hl 4 rfl dX5_serve_54 ?_
          obtain ⟨q15, eq15, h⟩ := z_bind h
          refine z_callV1I (pc := 56) (n := 1) (As := [.int (iO x4)]) (rest := []) X hW hl rfl (C5_lacksOf l N x4 μ eq15) gX5_serve_X5_lacksOf rfl (by decide +kernel) rfl (by decide) rfl (Nat.le_of_ble_eq_true rfl) dX5_serve_56 (fun H locs hW => ?_)
          refine z_aload_n (pc := 59) X.1 hl 0 rfl rfl dX5_serve_59 ?_
          refine z_get1 (pc := 60) X.1 hW rfl iX5_serve_1 0 (by decide) rfl (by decide +kernel) dX5_serve_60 ?_
          refine z_iconst (pc := 63) X.1 dX5_serve_63 ?_
          refine z_iald (pc := 64) X.1 hW rfl ⟨(by decide), (by decide)⟩ dX5_serve_64 ?_
          obtain ⟨g16, h⟩ := z_guard h
          refine z_icmp_gt (pc := 65) (tgt := 71) X.1 dX5_serve_65 (by decide) ⟨g16.1, g16.2⟩ h (fun c17 h => ?_) (fun c17 h => ?_)
          · exact CJ5_serve_71 X N (L5_serve_26 N k) ih x1 x2 x3 x4 μ h _ _ ls hW (lv_sub hl [0, 1, 2, 3, 4] rfl)
          · refine z_iload (pc := 68) X.1 hl 4 rfl dX5_serve_68 ?_
            refine z_istore_n (pc := 70) (i := 3) X.1 [(3, .int (iO x4)), (0, .ref (ad 0)), (1, .int (iO x1)), (2, .int (iO x2)), (4, .int (iO x4))] hl rfl rfl (by decide) rfl dX5_serve_70 (fun ls hl => ?_)
            exact CJ5_serve_71 X N (L5_serve_26 N k) ih x1 x2 x4 x4 μ h _ _ ls hW (lv_sub hl [1, 2, 3, 0, 4] rfl)
end
theorem C5_serve (l : Launch) {D : va_G} {cy : ClassId × ClassId} {ad : Nat → Nat} (N : Nat) (a0 : Int) (μ : mm) {res : (Int × mm)} (h : M5_serve N a0 μ = some res) : zI l yX5_serve wsX5_serve 4 D cy ad [.ref (ad 0), .int (iO a0)] μ res.1 res.2 := by
  refine zI.of RX5 rfl (by decide) rfl (Nat.le_of_ble_eq_true rfl) ?_
  intro p e s m args below meth c A X hW ls hl
  have hl : lv_has ls 5 [(0, .ref (ad 0)), (1, .int (iO a0))] := hl
  unfold M5_serve at h
  refine z_iload_n (pc := 0) X.1 hl 1 rfl rfl dX5_serve_0 ?_
  refine z_iconst (pc := 1) X.1 dX5_serve_1 ?_
  refine z_iconst (pc := 2) X.1 dX5_serve_2 ?_
  obtain ⟨q1, eq1, h⟩ := z_bind h
  refine z_callSI (pc := 3) (n := 3) (As := [.int (iO a0), .int (iO 0), .int (iO 2)]) (rest := []) X hW hl (C5_isIn l N a0 0 2 μ eq1) gX5_serve_X5_isIn rfl (by decide +kernel) rfl (by decide) rfl (Nat.le_of_ble_eq_true rfl) dX5_serve_3 (fun H locs hW => ?_)
  obtain ⟨g2, h⟩ := z_guard h
  refine z_if_ne (pc := 6) (tgt := 16) X.1 dX5_serve_6 (by decide) g2 h (fun c22 h => ?_) (fun c22 h => ?_)
  · refine z_aload_n (pc := 16) X.1 hl 0 rfl rfl dX5_serve_16 ?_
    obtain ⟨q3, eq3, h⟩ := z_bind h
    refine z_callV1I (pc := 17) (n := 0) (As := []) (rest := []) X hW hl rfl (C5_lacking l N  μ eq3) gX5_serve_X5_lacking rfl (by decide +kernel) rfl (by decide) rfl (Nat.le_of_ble_eq_true rfl) dX5_serve_17 (fun H locs hW => ?_)
    refine z_istore_n (pc := 20) (i := 2) X.1 [(2, .int (iO q3)), (0, .ref (ad 0)), (1, .int (iO a0))] hl rfl rfl (by decide) rfl dX5_serve_20 (fun ls hl => ?_)
    refine z_iconst (pc := 21) X.1 dX5_serve_21 ?_
    refine z_istore_n (pc := 22) (i := 3) X.1 [(3, .int (iO 0)), (2, .int (iO q3)), (0, .ref (ad 0)), (1, .int (iO a0))] hl rfl rfl (by decide) rfl dX5_serve_22 (fun ls hl => ?_)
    refine z_iconst (pc := 23) X.1 dX5_serve_23 ?_
    refine z_istore (pc := 24) (i := 4) X.1 [(4, .int (iO 0)), (3, .int (iO 0)), (2, .int (iO q3)), (0, .ref (ad 0)), (1, .int (iO a0))] hl rfl (by decide) rfl dX5_serve_24 (fun ls hl => ?_)
    exact CL5_serve_26 X N N a0 q3 0 0 μ h _ _ ls hW (lv_sub hl [3, 4, 2, 1, 0] rfl)
  · refine z_aload_n (pc := 9) X.1 hl 0 rfl rfl dX5_serve_9 ?_
    refine z_bipush (pc := 10) X.1 dX5_serve_10 (by decide) ?_
    obtain ⟨q21, eq21, h⟩ := z_bind h
    refine z_callV1I (pc := 12) (n := 1) (As := [.int (iO (-2))]) (rest := []) X hW hl rfl (C5_no l N (-2) μ eq21) gX5_serve_X5_no rfl (by decide +kernel) rfl (by decide) rfl (Nat.le_of_ble_eq_true rfl) dX5_serve_12 (fun H locs hW => ?_)
    exact z_iret (pc := 15) X hW (z_p1 h) (z_p2 h) dX5_serve_15
-- X5_signs
theorem iX5_signs_1 : ∀ w ∈ wsX50, w ∈ wsX5_signs := by decide +kernel
theorem C5_signs (l : Launch) {D : va_G} {cy : ClassId × ClassId} {ad : Nat → Nat} (N : Nat) (a0 : Int) (μ : mm) {res : (Int × mm)} (h : M5_signs N a0 μ = some res) : zI l yX5_signs wsX5_signs 3 D cy ad [.ref (ad 0), .int (iO a0)] μ res.1 res.2 := by
  refine zI.of RX5 rfl (by decide) rfl (Nat.le_of_ble_eq_true rfl) ?_
  intro p e s m args below meth c A X hW ls hl
  have hl : lv_has ls 3 [(0, .ref (ad 0)), (1, .int (iO a0))] := hl
  unfold M5_signs at h
  refine z_aload_n (pc := 0) X.1 hl 0 rfl rfl dX5_signs_0 ?_
  refine z_get1 (pc := 1) X.1 hW rfl iX5_signs_1 1 (by decide) rfl (by decide +kernel) dX5_signs_1 ?_
  refine z_iload_n (pc := 4) X.1 hl 1 rfl rfl dX5_signs_4 ?_
  obtain ⟨q1, eq1, h⟩ := z_bind h
  refine z_callSI (pc := 5) (n := 2) (As := [.ref (ad 2), .int (iO a0)]) (rest := []) X hW hl (C5_lacksIn l N 2 a0 (by decide) μ eq1) gX5_signs_X5_lacksIn rfl (by decide +kernel) rfl (by decide) rfl (Nat.le_of_ble_eq_true rfl) dX5_signs_5 (fun H locs hW => ?_)
  refine z_istore_n (pc := 8) (i := 2) X.1 [(2, .int (iO q1)), (0, .ref (ad 0)), (1, .int (iO a0))] hl rfl rfl (by decide) rfl dX5_signs_8 (fun ls hl => ?_)
  refine z_iload_n (pc := 9) X.1 hl 0 rfl rfl dX5_signs_9 ?_
  refine z_aload_n (pc := 10) X.1 hl 1 rfl rfl dX5_signs_10 ?_
  refine z_get1 (pc := 11) X.1 hW rfl iX5_signs_1 1 (by decide) rfl (by decide +kernel) dX5_signs_11 ?_
  refine z_iconst (pc := 14) X.1 dX5_signs_14 ?_
  refine z_iald (pc := 15) X.1 hW rfl ⟨(by decide), (by decide)⟩ dX5_signs_15 ?_
  obtain ⟨g2, h⟩ := z_guard h
  refine z_icmp_le (pc := 16) (tgt := 21) X.1 dX5_signs_16 (by decide) ⟨g2.1, g2.2⟩ h (fun c4 h => ?_) (fun c4 h => ?_)
  · refine z_aload_n (pc := 21) X.1 hl 1 rfl rfl dX5_signs_21 ?_
    refine z_get1 (pc := 22) X.1 hW rfl iX5_signs_1 1 (by decide) rfl (by decide +kernel) dX5_signs_22 ?_
    refine z_iload_n (pc := 25) X.1 hl 2 rfl rfl dX5_signs_25 ?_
    refine z_iload_n (pc := 26) X.1 hl 0 rfl rfl dX5_signs_26 ?_
    obtain ⟨q3, eq3, h⟩ := z_bind h
    refine z_callSV (pc := 27) (n := 3) (As := [.ref (ad 2), .int (iO a0), .int (iO q1)]) (rest := []) X hW hl (C5_issuesIn l N 2 a0 q1 (by decide) μ eq3) gX5_signs_X5_issuesIn rfl (by decide +kernel) rfl (by decide) rfl (Nat.le_of_ble_eq_true rfl) dX5_signs_27 (fun H locs hW => ?_)
    refine z_iload_n (pc := 30) X.1 hl 0 rfl rfl dX5_signs_30 ?_
    exact z_iret (pc := 31) X hW (z_p1 h) (z_p2 h) dX5_signs_31
  · refine z_iconst (pc := 19) X.1 dX5_signs_19 ?_
    exact z_iret (pc := 20) X hW (z_p1 h) (z_p2 h) dX5_signs_20
-- X5_best
theorem iX5_best_1 : ∀ w ∈ wsX50, w ∈ wsX5_best := by decide +kernel
section
variable {p : Program} {l : Launch} {e : Env} {s : State} {m : MethodId} {args : Array Value} {below : List Frame} {meth : Method} {c : Code} {D : va_G} {cy : ClassId × ClassId} {ad : Nat → Nat} {A : Nat → Prop} {res : (Int × mm)}
theorem CJ5_best_140 (X : zX p s m args meth c cX5_best RX5 wsX5_best 9 D cy ad (some .int) A) (N : Nat) (rec43 : Int → Int → Int → Int → Int → mm → Option (Int × mm)) (hrec43 : ∀ (x1 : Int) (x2 : Int) (x4 : Int) (x5 : Int) (x6 : Int) (μ : mm), rec43 x1 x2 x4 x5 x6 μ = some res → ∀ (H : Heap) (locs : List Loc) (ls : Array Slot), zW D cy ad A s.heap μ H locs → lv_has ls 9 [(0, .ref (ad 0)), (1, .int (iO x1)), (2, .int (iO x2)), (4, .int (iO x4)), (5, .int (iO x5)), (6, .int (iO x6))] → W p l e (rmD 7) s m args below meth c H locs 0 0 (MQ below (zQi D cy ad A res.1 res.2) args s 0 0 A) (F0 m 43 ls [])) : ∀ (x1 : Int) (x2 : Int) (x4 : Int) (x5 : Int) (x6 : Int) (μ : mm), J5_best_140 N rec43 x1 x2 x4 x5 x6 μ = some res → ∀ (H : Heap) (locs : List Loc) (ls : Array Slot), zW D cy ad A s.heap μ H locs → lv_has ls 9 [(0, .ref (ad 0)), (1, .int (iO x1)), (2, .int (iO x2)), (4, .int (iO x4)), (5, .int (iO x5)), (6, .int (iO x6))] → W p l e (rmD 7) s m args below meth c H locs 0 0 (MQ below (zQi D cy ad A res.1 res.2) args s 0 0 A) (F0 m 140 ls []) := by
  intro x1 x2 x4 x5 x6 μ h H locs ls hW hl
  rw [J5_best_140] at h
  refine z_iinc (pc := 140) (i := 6) X.1 [(6, .int (iO (x6 + 1))), (0, .ref (ad 0)), (1, .int (iO x1)), (2, .int (iO x2)), (4, .int (iO x4)), (5, .int (iO x5))] hl 5 rfl rfl (by decide) rfl dX5_best_140 (fun ls hl => ?_)
  refine z_goto (pc := 143) (tgt := 43) X.1 dX5_best_143 (by decide) ?_
  exact hrec43 x1 x2 x4 x5 (x6 + 1) μ h _ _ ls hW (lv_sub hl [1, 2, 3, 4, 5, 0] rfl)
theorem CJ5_best_106 (X : zX p s m args meth c cX5_best RX5 wsX5_best 9 D cy ad (some .int) A) (N : Nat) (rec43 : Int → Int → Int → Int → Int → mm → Option (Int × mm)) (rec73 : Int → Int → Int → Int → Int → Int → Int → mm → Option (Int × mm)) (hrec43 : ∀ (x1 : Int) (x2 : Int) (x4 : Int) (x5 : Int) (x6 : Int) (μ : mm), rec43 x1 x2 x4 x5 x6 μ = some res → ∀ (H : Heap) (locs : List Loc) (ls : Array Slot), zW D cy ad A s.heap μ H locs → lv_has ls 9 [(0, .ref (ad 0)), (1, .int (iO x1)), (2, .int (iO x2)), (4, .int (iO x4)), (5, .int (iO x5)), (6, .int (iO x6))] → W p l e (rmD 7) s m args below meth c H locs 0 0 (MQ below (zQi D cy ad A res.1 res.2) args s 0 0 A) (F0 m 43 ls [])) (hrec73 : ∀ (x1 : Int) (x2 : Int) (x4 : Int) (x5 : Int) (x6 : Int) (x7 : Int) (x8 : Int) (μ : mm), rec73 x1 x2 x4 x5 x6 x7 x8 μ = some res → ∀ (H : Heap) (locs : List Loc) (ls : Array Slot), zW D cy ad A s.heap μ H locs → lv_has ls 9 [(0, .ref (ad 0)), (1, .int (iO x1)), (2, .int (iO x2)), (4, .int (iO x4)), (5, .int (iO x5)), (6, .int (iO x6)), (7, .int (iO x7)), (8, .int (iO x8))] → W p l e (rmD 7) s m args below meth c H locs 0 0 (MQ below (zQi D cy ad A res.1 res.2) args s 0 0 A) (F0 m 73 ls [])) : ∀ (x1 : Int) (x2 : Int) (x4 : Int) (x5 : Int) (x6 : Int) (x8 : Int) (y0 : Int) (y1 : Int) (μ : mm), J5_best_106 N rec43 rec73 x1 x2 x4 x5 x6 x8 y0 y1 μ = some res → ∀ (H : Heap) (locs : List Loc) (ls : Array Slot), zW D cy ad A s.heap μ H locs → lv_has ls 9 [(0, .ref (ad 0)), (1, .int (iO x1)), (2, .int (iO x2)), (4, .int (iO x4)), (5, .int (iO x5)), (6, .int (iO x6)), (8, .int (iO x8))] → W p l e (rmD 7) s m args below meth c H locs 0 0 (MQ below (zQi D cy ad A res.1 res.2) args s 0 0 A) (F0 m 106 ls [.int (iO y0), .int (iO y1)]) := by
  intro x1 x2 x4 x5 x6 x8 y0 y1 μ h H locs ls hW hl
  rw [J5_best_106] at h
  refine z_iadd (pc := 106) X.1 dX5_best_106 ?_
  obtain ⟨w15, ew15, h⟩ := z_bnd h
  refine z_istore (pc := 107) (i := 7) X.1 [(7, .int (iO w15)), (0, .ref (ad 0)), (1, .int (iO x1)), (2, .int (iO x2)), (4, .int (iO x4)), (5, .int (iO x5)), (6, .int (iO x6)), (8, .int (iO x8))] hl ew15 (by decide) rfl dX5_best_107 (fun ls hl => ?_)
  refine z_iinc (pc := 109) (i := 8) X.1 [(8, .int (iO (x8 + 1))), (7, .int (iO w15)), (0, .ref (ad 0)), (1, .int (iO x1)), (2, .int (iO x2)), (4, .int (iO x4)), (5, .int (iO x5)), (6, .int (iO x6))] hl 7 rfl rfl (by decide) rfl dX5_best_109 (fun ls hl => ?_)
  refine z_goto (pc := 112) (tgt := 73) X.1 dX5_best_112 (by decide) ?_
  exact hrec73 x1 x2 x4 x5 x6 w15 (x8 + 1) μ h _ _ ls hW (lv_sub hl [2, 3, 4, 5, 6, 7, 1, 0] rfl)
theorem CL5_best_73 (X : zX p s m args meth c cX5_best RX5 wsX5_best 9 D cy ad (some .int) A) (N : Nat) (rec43 : Int → Int → Int → Int → Int → mm → Option (Int × mm)) (hrec43 : ∀ (x1 : Int) (x2 : Int) (x4 : Int) (x5 : Int) (x6 : Int) (μ : mm), rec43 x1 x2 x4 x5 x6 μ = some res → ∀ (H : Heap) (locs : List Loc) (ls : Array Slot), zW D cy ad A s.heap μ H locs → lv_has ls 9 [(0, .ref (ad 0)), (1, .int (iO x1)), (2, .int (iO x2)), (4, .int (iO x4)), (5, .int (iO x5)), (6, .int (iO x6))] → W p l e (rmD 7) s m args below meth c H locs 0 0 (MQ below (zQi D cy ad A res.1 res.2) args s 0 0 A) (F0 m 43 ls [])) : ∀ (k : Nat) (x1 : Int) (x2 : Int) (x4 : Int) (x5 : Int) (x6 : Int) (x7 : Int) (x8 : Int) (μ : mm), L5_best_73 N rec43 k x1 x2 x4 x5 x6 x7 x8 μ = some res → ∀ (H : Heap) (locs : List Loc) (ls : Array Slot), zW D cy ad A s.heap μ H locs → lv_has ls 9 [(0, .ref (ad 0)), (1, .int (iO x1)), (2, .int (iO x2)), (4, .int (iO x4)), (5, .int (iO x5)), (6, .int (iO x6)), (7, .int (iO x7)), (8, .int (iO x8))] → W p l e (rmD 7) s m args below meth c H locs 0 0 (MQ below (zQi D cy ad A res.1 res.2) args s 0 0 A) (F0 m 73 ls []) := by
  intro k
  induction k with
  | zero =>
    intro x1 x2 x4 x5 x6 x7 x8 μ h H locs ls hW hl
    exact absurd h (by rw [L5_best_73]; exact fun z => by cases z)
  | succ k ih =>
    intro x1 x2 x4 x5 x6 x7 x8 μ h H locs ls hW hl
    rw [L5_best_73] at h
    refine z_iload (pc := 73) X.1 hl 7 rfl dX5_best_73 ?_
    refine z_aload_n (pc := 75) X.1 hl 0 rfl rfl dX5_best_75 ?_
    refine z_get1 (pc := 76) X.1 hW rfl iX5_best_1 0 (by decide) rfl (by decide +kernel) dX5_best_76 ?_
    refine z_iconst (pc := 79) X.1 dX5_best_79 ?_
    refine z_iald (pc := 80) X.1 hW rfl ⟨(by decide), (by decide)⟩ dX5_best_80 ?_
    obtain ⟨g9, h⟩ := z_guard h
    refine z_icmp_ge (pc := 81) (tgt := 115) X.1 dX5_best_81 (by decide) ⟨g9.1, g9.2⟩ h (fun c18 h => ?_) (fun c18 h => ?_)
    · refine z_aload_n (pc := 115) X.1 hl 0 rfl rfl dX5_best_115 ?_
      refine z_iload_n (pc := 116) X.1 hl 1 rfl rfl dX5_best_116 ?_
      obtain ⟨q10, eq10, h⟩ := z_bind h
      refine z_callV1I (pc := 117) (n := 1) (As := [.int (iO x1)]) (rest := []) X hW hl rfl (C5_throughBehind l N x1 μ eq10) gX5_best_X5_throughBehind rfl (by decide +kernel) rfl (by decide) rfl (Nat.le_of_ble_eq_true rfl) dX5_best_117 (fun H locs hW => ?_)
      refine z_istore (pc := 120) (i := 8) X.1 [(8, .int (iO q10.1)), (0, .ref (ad 0)), (1, .int (iO x1)), (2, .int (iO x2)), (4, .int (iO x4)), (5, .int (iO x5)), (6, .int (iO x6)), (7, .int (iO x7))] hl rfl (by decide) rfl dX5_best_120 (fun ls hl => ?_)
      refine z_iload (pc := 122) X.1 hl 0 rfl dX5_best_122 ?_
      refine z_iload (pc := 124) X.1 hl 5 rfl dX5_best_124 ?_
      obtain ⟨g11, h⟩ := z_guard h
      refine z_icmp_gt (pc := 126) (tgt := 132) X.1 dX5_best_126 (by decide) ⟨g11.1, g11.2⟩ h (fun c12 h => ?_) (fun c12 h => ?_)
      · refine z_iload (pc := 132) X.1 hl 6 rfl dX5_best_132 ?_
        refine z_istore (pc := 134) (i := 4) X.1 [(4, .int (iO x6)), (8, .int (iO q10.1)), (0, .ref (ad 0)), (1, .int (iO x1)), (2, .int (iO x2)), (5, .int (iO x5)), (6, .int (iO x6)), (7, .int (iO x7))] hl rfl (by decide) rfl dX5_best_134 (fun ls hl => ?_)
        refine z_iload (pc := 136) X.1 hl 1 rfl dX5_best_136 ?_
        refine z_istore (pc := 138) (i := 5) X.1 [(5, .int (iO q10.1)), (4, .int (iO x6)), (8, .int (iO q10.1)), (0, .ref (ad 0)), (1, .int (iO x1)), (2, .int (iO x2)), (6, .int (iO x6)), (7, .int (iO x7))] hl rfl (by decide) rfl dX5_best_138 (fun ls hl => ?_)
        exact CJ5_best_140 X N rec43 hrec43 x1 x2 x6 q10.1 x6 q10.2 h _ _ ls hW (lv_sub hl [3, 4, 5, 1, 0, 6] rfl)
      · refine z_goto (pc := 129) (tgt := 140) X.1 dX5_best_129 (by decide) ?_
        exact CJ5_best_140 X N rec43 hrec43 x1 x2 x4 x5 x6 q10.2 h _ _ ls hW (lv_sub hl [1, 2, 3, 4, 5, 6] rfl)
    · refine z_iload (pc := 84) X.1 hl 6 rfl dX5_best_84 ?_
      refine z_iload (pc := 86) X.1 hl 5 rfl dX5_best_86 ?_
      refine z_iload (pc := 88) X.1 hl 7 rfl dX5_best_88 ?_
      obtain ⟨q13, eq13, h⟩ := z_bind h
      refine z_callSI (pc := 90) (n := 2) (As := [.int (iO x6), .int (iO x8)]) (rest := [.int (iO x7)]) X hW hl (C5_has l N x6 x8 μ eq13) gX5_best_X5_has rfl (by decide +kernel) rfl (by decide) rfl (Nat.le_of_ble_eq_true rfl) dX5_best_90 (fun H locs hW => ?_)
      obtain ⟨g14, h⟩ := z_guard h
      refine z_if_eq (pc := 93) (tgt := 105) X.1 dX5_best_93 (by decide) g14 h (fun c17 h => ?_) (fun c17 h => ?_)
      · refine z_iconst (pc := 105) X.1 dX5_best_105 ?_
        exact CJ5_best_106 X N rec43 (L5_best_73 N rec43 k) hrec43 ih x1 x2 x4 x5 x6 x8 0 x7 μ h _ _ ls hW (lv_sub hl [0, 1, 2, 3, 4, 5, 7] rfl)
      · refine z_aload_n (pc := 96) X.1 hl 0 rfl rfl dX5_best_96 ?_
        refine z_iload (pc := 97) X.1 hl 7 rfl dX5_best_97 ?_
        obtain ⟨q16, eq16, h⟩ := z_bind h
        refine z_callV1I (pc := 99) (n := 1) (As := [.int (iO x8)]) (rest := [.int (iO x7)]) X hW hl rfl (C5_signs l N x8 μ eq16) gX5_best_X5_signs rfl (by decide +kernel) rfl (by decide) rfl (Nat.le_of_ble_eq_true rfl) dX5_best_99 (fun H locs hW => ?_)
        refine z_goto (pc := 102) (tgt := 106) X.1 dX5_best_102 (by decide) ?_
        exact CJ5_best_106 X N rec43 (L5_best_73 N rec43 k) hrec43 ih x1 x2 x4 x5 x6 x8 q16.1 x7 q16.2 h _ _ ls hW (lv_sub hl [0, 1, 2, 3, 4, 5, 7] rfl)
theorem CL5_best_43 (X : zX p s m args meth c cX5_best RX5 wsX5_best 9 D cy ad (some .int) A) (N : Nat) : ∀ (k : Nat) (x1 : Int) (x2 : Int) (x4 : Int) (x5 : Int) (x6 : Int) (μ : mm), L5_best_43 N k x1 x2 x4 x5 x6 μ = some res → ∀ (H : Heap) (locs : List Loc) (ls : Array Slot), zW D cy ad A s.heap μ H locs → lv_has ls 9 [(0, .ref (ad 0)), (1, .int (iO x1)), (2, .int (iO x2)), (4, .int (iO x4)), (5, .int (iO x5)), (6, .int (iO x6))] → W p l e (rmD 7) s m args below meth c H locs 0 0 (MQ below (zQi D cy ad A res.1 res.2) args s 0 0 A) (F0 m 43 ls []) := by
  intro k
  induction k with
  | zero =>
    intro x1 x2 x4 x5 x6 μ h H locs ls hW hl
    exact absurd h (by rw [L5_best_43]; exact fun z => by cases z)
  | succ k ih =>
    intro x1 x2 x4 x5 x6 μ h H locs ls hW hl
    rw [L5_best_43] at h
    refine z_iload (pc := 43) X.1 hl 5 rfl dX5_best_43 ?_
    refine z_iconst (pc := 45) X.1 dX5_best_45 ?_
    refine z_aload_n (pc := 46) X.1 hl 0 rfl rfl dX5_best_46 ?_
    refine z_get1 (pc := 47) X.1 hW rfl iX5_best_1 0 (by decide) rfl (by decide +kernel) dX5_best_47 ?_
    refine z_iconst (pc := 50) X.1 dX5_best_50 ?_
    refine z_iald (pc := 51) X.1 hW rfl ⟨(by decide), (by decide)⟩ dX5_best_51 ?_
    obtain ⟨g4, h⟩ := z_guard h
    refine z_ishl (pc := 52) X.1 dX5_best_52 ⟨g4.1, g4.2⟩ ?_
    obtain ⟨g5, h⟩ := z_guard h
    refine z_icmp_ge (pc := 53) (tgt := 146) X.1 dX5_best_53 (by decide) ⟨g5.1, g5.2⟩ h (fun c19 h => ?_) (fun c19 h => ?_)
    · refine z_iload_n (pc := 146) X.1 hl 2 rfl rfl dX5_best_146 ?_
      obtain ⟨g6, h⟩ := z_guard h
      refine z_if_ne (pc := 147) (tgt := 155) X.1 dX5_best_147 (by decide) g6 h (fun c7 h => ?_) (fun c7 h => ?_)
      · refine z_iload (pc := 155) X.1 hl 3 rfl dX5_best_155 ?_
        exact z_iret (pc := 157) X hW (z_p1 h) (z_p2 h) dX5_best_157
      · refine z_iload (pc := 150) X.1 hl 4 rfl dX5_best_150 ?_
        refine z_goto (pc := 152) (tgt := 157) X.1 dX5_best_152 (by decide) ?_
        exact z_iret (pc := 157) X hW (z_p1 h) (z_p2 h) dX5_best_157
    · refine z_aload_n (pc := 56) X.1 hl 0 rfl rfl dX5_best_56 ?_
      refine z_get1 (pc := 57) X.1 hW rfl iX5_best_1 0 (by decide) rfl (by decide +kernel) dX5_best_57 ?_
      refine z_aload_n (pc := 60) X.1 hl 0 rfl rfl dX5_best_60 ?_
      refine z_get1 (pc := 61) X.1 hW rfl iX5_best_1 1 (by decide) rfl (by decide +kernel) dX5_best_61 ?_
      obtain ⟨q8, eq8, h⟩ := z_bind h
      refine z_callSV (pc := 64) (n := 2) (As := [.ref (ad 1), .ref (ad 2)]) (rest := []) X hW hl (C5_copies l N 1 2 (by decide) (by decide) μ eq8) gX5_best_X5_copies rfl (by decide +kernel) rfl (by decide) rfl (Nat.le_of_ble_eq_true rfl) dX5_best_64 (fun H locs hW => ?_)
      refine z_iconst (pc := 67) X.1 dX5_best_67 ?_
      refine z_istore (pc := 68) (i := 7) X.1 [(7, .int (iO 0)), (0, .ref (ad 0)), (1, .int (iO x1)), (2, .int (iO x2)), (4, .int (iO x4)), (5, .int (iO x5)), (6, .int (iO x6))] hl rfl (by decide) rfl dX5_best_68 (fun ls hl => ?_)
      refine z_iconst (pc := 70) X.1 dX5_best_70 ?_
      refine z_istore (pc := 71) (i := 8) X.1 [(8, .int (iO 0)), (7, .int (iO 0)), (0, .ref (ad 0)), (1, .int (iO x1)), (2, .int (iO x2)), (4, .int (iO x4)), (5, .int (iO x5)), (6, .int (iO x6))] hl rfl (by decide) rfl dX5_best_71 (fun ls hl => ?_)
      exact CL5_best_73 X N (L5_best_43 N k) ih N x1 x2 x4 x5 x6 0 0 q8 h _ _ ls hW (lv_sub hl [2, 3, 4, 5, 6, 7, 1, 0] rfl)
theorem CJ5_best_24 (X : zX p s m args meth c cX5_best RX5 wsX5_best 9 D cy ad (some .int) A) (N : Nat) : ∀ (x1 : Int) (x2 : Int) (x3 : Int) (μ : mm), J5_best_24 N x1 x2 x3 μ = some res → ∀ (H : Heap) (locs : List Loc) (ls : Array Slot), zW D cy ad A s.heap μ H locs → lv_has ls 9 [(0, .ref (ad 0)), (1, .int (iO x1)), (2, .int (iO x2)), (3, .int (iO x3))] → W p l e (rmD 7) s m args below meth c H locs 0 0 (MQ below (zQi D cy ad A res.1 res.2) args s 0 0 A) (F0 m 24 ls []) := by
  intro x1 x2 x3 μ h H locs ls hW hl
  rw [J5_best_24] at h
  refine z_iload_n (pc := 24) X.1 hl 3 rfl rfl dX5_best_24 ?_
  obtain ⟨g3, h⟩ := z_guard h
  refine z_if_eq (pc := 25) (tgt := 34) X.1 dX5_best_25 (by decide) g3 h (fun c21 h => ?_) (fun c21 h => ?_)
  · refine z_iconst (pc := 34) X.1 dX5_best_34 ?_
    refine z_istore (pc := 35) (i := 4) X.1 [(4, .int (iO 0)), (0, .ref (ad 0)), (1, .int (iO x1)), (2, .int (iO x2)), (3, .int (iO x3))] hl rfl (by decide) rfl dX5_best_35 (fun ls hl => ?_)
    refine z_iconst (pc := 37) X.1 dX5_best_37 ?_
    refine z_istore (pc := 38) (i := 5) X.1 [(5, .int (iO (-1))), (4, .int (iO 0)), (0, .ref (ad 0)), (1, .int (iO x1)), (2, .int (iO x2)), (3, .int (iO x3))] hl rfl (by decide) rfl dX5_best_38 (fun ls hl => ?_)
    refine z_iconst (pc := 40) X.1 dX5_best_40 ?_
    refine z_istore (pc := 41) (i := 6) X.1 [(6, .int (iO 0)), (5, .int (iO (-1))), (4, .int (iO 0)), (0, .ref (ad 0)), (1, .int (iO x1)), (2, .int (iO x2)), (3, .int (iO x3))] hl rfl (by decide) rfl dX5_best_41 (fun ls hl => ?_)
    exact CL5_best_43 X N N x1 x2 0 (-1) 0 μ h _ _ ls hW (lv_sub hl [3, 4, 5, 2, 1, 0] rfl)
  · refine z_aload_n (pc := 28) X.1 hl 0 rfl rfl dX5_best_28 ?_
    refine z_iload_n (pc := 29) X.1 hl 3 rfl rfl dX5_best_29 ?_
    obtain ⟨q20, eq20, h⟩ := z_bind h
    refine z_callV1I (pc := 30) (n := 1) (As := [.int (iO x3)]) (rest := []) X hW hl rfl (C5_no l N x3 μ eq20) gX5_best_X5_no rfl (by decide +kernel) rfl (by decide) rfl (Nat.le_of_ble_eq_true rfl) dX5_best_30 (fun H locs hW => ?_)
    exact z_iret (pc := 33) X hW (z_p1 h) (z_p2 h) dX5_best_33
end
theorem C5_best (l : Launch) {D : va_G} {cy : ClassId × ClassId} {ad : Nat → Nat} (N : Nat) (a0 : Int) (a1 : Int) (μ : mm) {res : (Int × mm)} (h : M5_best N a0 a1 μ = some res) : zI l yX5_best wsX5_best 7 D cy ad [.ref (ad 0), .int (iO a0), .int (iO a1)] μ res.1 res.2 := by
  refine zI.of RX5 rfl (by decide) rfl (Nat.le_of_ble_eq_true rfl) ?_
  intro p e s m args below meth c A X hW ls hl
  have hl : lv_has ls 9 [(0, .ref (ad 0)), (1, .int (iO a0)), (2, .int (iO a1))] := hl
  unfold M5_best at h
  refine z_iload_n (pc := 0) X.1 hl 1 rfl rfl dX5_best_0 ?_
  refine z_iconst (pc := 1) X.1 dX5_best_1 ?_
  refine z_bipush (pc := 2) X.1 dX5_best_2 (by decide) ?_
  obtain ⟨q1, eq1, h⟩ := z_bind h
  refine z_callSI (pc := 4) (n := 3) (As := [.int (iO a0), .int (iO 1), .int (iO 30)]) (rest := []) X hW hl (C5_wrongBy l N a0 1 30 μ eq1) gX5_best_X5_wrongBy rfl (by decide +kernel) rfl (by decide) rfl (Nat.le_of_ble_eq_true rfl) dX5_best_4 (fun H locs hW => ?_)
  refine z_istore_n (pc := 7) (i := 3) X.1 [(3, .int (iO q1)), (0, .ref (ad 0)), (1, .int (iO a0)), (2, .int (iO a1))] hl rfl rfl (by decide) rfl dX5_best_7 (fun ls hl => ?_)
  refine z_iload_n (pc := 8) X.1 hl 0 rfl rfl dX5_best_8 ?_
  obtain ⟨g2, h⟩ := z_guard h
  refine z_if_ne (pc := 9) (tgt := 24) X.1 dX5_best_9 (by decide) g2 h (fun c25 h => ?_) (fun c25 h => ?_)
  · exact CJ5_best_24 X N a0 a1 q1 μ h _ _ ls hW (lv_sub hl [1, 2, 3, 0] rfl)
  · refine z_iload_n (pc := 12) X.1 hl 3 rfl rfl dX5_best_12 ?_
    refine z_iconst (pc := 13) X.1 dX5_best_13 ?_
    refine z_iconst (pc := 14) X.1 dX5_best_14 ?_
    obtain ⟨q22, eq22, h⟩ := z_bind h
    refine z_callSI (pc := 15) (n := 3) (As := [.int (iO a1), .int (iO 0), .int (iO 1)]) (rest := []) X hW hl (C5_isIn l N a1 0 1 μ eq22) gX5_best_X5_isIn rfl (by decide +kernel) rfl (by decide) rfl (Nat.le_of_ble_eq_true rfl) dX5_best_15 (fun H locs hW => ?_)
    obtain ⟨g23, h⟩ := z_guard h
    refine z_if_ne (pc := 18) (tgt := 24) X.1 dX5_best_18 (by decide) g23 h (fun c24 h => ?_) (fun c24 h => ?_)
    · exact CJ5_best_24 X N a0 a1 q1 μ h _ _ ls hW (lv_sub hl [1, 2, 3, 0] rfl)
    · refine z_bipush (pc := 21) X.1 dX5_best_21 (by decide) ?_
      refine z_istore_n (pc := 23) (i := 3) X.1 [(3, .int (iO (-2))), (0, .ref (ad 0)), (1, .int (iO a0)), (2, .int (iO a1))] hl rfl rfl (by decide) rfl dX5_best_23 (fun ls hl => ?_)
      exact CJ5_best_24 X N a0 a1 (-2) μ h _ _ ls hW (lv_sub hl [1, 2, 3, 0] rfl)
-- X5_refusesOne
theorem iX5_refusesOne_1 : ∀ w ∈ wsX50, w ∈ wsX5_refusesOne := by decide +kernel
section
variable {p : Program} {l : Launch} {e : Env} {s : State} {m : MethodId} {args : Array Value} {below : List Frame} {meth : Method} {c : Code} {D : va_G} {cy : ClassId × ClassId} {ad : Nat → Nat} {A : Nat → Prop} {res : (Int × mm)}
theorem CJ5_refusesOne_59 (X : zX p s m args meth c cX5_refusesOne RX5 wsX5_refusesOne 3 D cy ad (some .int) A) (N : Nat) (rec2 : Int → mm → Option (Int × mm)) (hrec2 : ∀ (x1 : Int) (μ : mm), rec2 x1 μ = some res → ∀ (H : Heap) (locs : List Loc) (ls : Array Slot), zW D cy ad A s.heap μ H locs → lv_has ls 3 [(0, .ref (ad 0)), (1, .int (iO x1))] → W p l e (rmD 3) s m args below meth c H locs 0 0 (MQ below (zQi D cy ad A res.1 res.2) args s 0 0 A) (F0 m 2 ls [])) : ∀ (x1 : Int) (μ : mm), J5_refusesOne_59 N rec2 x1 μ = some res → ∀ (H : Heap) (locs : List Loc) (ls : Array Slot), zW D cy ad A s.heap μ H locs → lv_has ls 3 [(0, .ref (ad 0)), (1, .int (iO x1))] → W p l e (rmD 3) s m args below meth c H locs 0 0 (MQ below (zQi D cy ad A res.1 res.2) args s 0 0 A) (F0 m 59 ls []) := by
  intro x1 μ h H locs ls hW hl
  rw [J5_refusesOne_59] at h
  refine z_iinc (pc := 59) (i := 1) X.1 [(1, .int (iO (x1 + 1))), (0, .ref (ad 0))] hl 1 rfl rfl (by decide) rfl dX5_refusesOne_59 (fun ls hl => ?_)
  refine z_goto (pc := 62) (tgt := 2) X.1 dX5_refusesOne_62 (by decide) ?_
  exact hrec2 (x1 + 1) μ h _ _ ls hW (lv_sub hl [1, 0] rfl)
theorem CL5_refusesOne_2 (X : zX p s m args meth c cX5_refusesOne RX5 wsX5_refusesOne 3 D cy ad (some .int) A) (N : Nat) : ∀ (k : Nat) (x1 : Int) (μ : mm), L5_refusesOne_2 N k x1 μ = some res → ∀ (H : Heap) (locs : List Loc) (ls : Array Slot), zW D cy ad A s.heap μ H locs → lv_has ls 3 [(0, .ref (ad 0)), (1, .int (iO x1))] → W p l e (rmD 3) s m args below meth c H locs 0 0 (MQ below (zQi D cy ad A res.1 res.2) args s 0 0 A) (F0 m 2 ls []) := by
  intro k
  induction k with
  | zero =>
    intro x1 μ h H locs ls hW hl
    exact absurd h (by rw [L5_refusesOne_2]; exact fun z => by cases z)
  | succ k ih =>
    intro x1 μ h H locs ls hW hl
    rw [L5_refusesOne_2] at h
    refine z_iload_n (pc := 2) X.1 hl 1 rfl rfl dX5_refusesOne_2 ?_
    refine z_aload_n (pc := 3) X.1 hl 0 rfl rfl dX5_refusesOne_3 ?_
    refine z_get1 (pc := 4) X.1 hW rfl iX5_refusesOne_1 1 (by decide) rfl (by decide +kernel) dX5_refusesOne_4 ?_
    refine z_iconst (pc := 7) X.1 dX5_refusesOne_7 ?_
    refine z_iald (pc := 8) X.1 hW rfl ⟨(by decide), (by decide)⟩ dX5_refusesOne_8 ?_
    obtain ⟨g1, h⟩ := z_guard h
    refine z_icmp_ge (pc := 9) (tgt := 65) X.1 dX5_refusesOne_9 (by decide) ⟨g1.1, g1.2⟩ h (fun c9 h => ?_) (fun c9 h => ?_)
    · refine z_bipush (pc := 65) X.1 dX5_refusesOne_65 (by decide) ?_
      exact z_iret (pc := 67) X hW (z_p1 h) (z_p2 h) dX5_refusesOne_67
    · refine z_aload_n (pc := 12) X.1 hl 0 rfl rfl dX5_refusesOne_12 ?_
      refine z_get1 (pc := 13) X.1 hW rfl iX5_refusesOne_1 1 (by decide) rfl (by decide +kernel) dX5_refusesOne_13 ?_
      refine z_iload_n (pc := 16) X.1 hl 1 rfl rfl dX5_refusesOne_16 ?_
      refine z_iconst (pc := 17) X.1 dX5_refusesOne_17 ?_
      refine z_callSI (pc := 18) (n := 2) (As := [.int (iO x1), .int (iO 3)]) (rest := [.ref (ad 2)]) X hW hl (C5_of l N x1 3 μ) gX5_refusesOne_X5_of rfl (by decide +kernel) rfl (by decide) rfl (Nat.le_of_ble_eq_true rfl) dX5_refusesOne_18 (fun H locs hW => ?_)
      obtain ⟨g2, h⟩ := z_guard h
      refine z_iald (pc := 21) X.1 hW rfl ⟨g2.1, g2.2⟩ dX5_refusesOne_21 ?_
      refine z_iconst (pc := 22) X.1 dX5_refusesOne_22 ?_
      obtain ⟨g3, h⟩ := z_guard h
      refine z_icmp_eq (pc := 23) (tgt := 29) X.1 dX5_refusesOne_23 (by decide) ⟨g3, (by decide)⟩ h (fun c8 h => ?_) (fun c8 h => ?_)
      · refine z_aload_n (pc := 29) X.1 hl 0 rfl rfl dX5_refusesOne_29 ?_
        refine z_get1 (pc := 30) X.1 hW rfl iX5_refusesOne_1 1 (by decide) rfl (by decide +kernel) dX5_refusesOne_30 ?_
        refine z_iload_n (pc := 33) X.1 hl 1 rfl rfl dX5_refusesOne_33 ?_
        obtain ⟨q4, eq4, h⟩ := z_bind h
        refine z_callSI (pc := 34) (n := 2) (As := [.ref (ad 2), .int (iO x1)]) (rest := []) X hW hl (C5_lacksIn l N 2 x1 (by decide) μ eq4) gX5_refusesOne_X5_lacksIn rfl (by decide +kernel) rfl (by decide) rfl (Nat.le_of_ble_eq_true rfl) dX5_refusesOne_34 (fun H locs hW => ?_)
        refine z_istore_n (pc := 37) (i := 2) X.1 [(2, .int (iO q4)), (0, .ref (ad 0)), (1, .int (iO x1))] hl rfl rfl (by decide) rfl dX5_refusesOne_37 (fun ls hl => ?_)
        refine z_iload_n (pc := 38) X.1 hl 0 rfl rfl dX5_refusesOne_38 ?_
        refine z_aload_n (pc := 39) X.1 hl 1 rfl rfl dX5_refusesOne_39 ?_
        refine z_get1 (pc := 40) X.1 hW rfl iX5_refusesOne_1 1 (by decide) rfl (by decide +kernel) dX5_refusesOne_40 ?_
        refine z_iconst (pc := 43) X.1 dX5_refusesOne_43 ?_
        refine z_iald (pc := 44) X.1 hW rfl ⟨(by decide), (by decide)⟩ dX5_refusesOne_44 ?_
        obtain ⟨g5, h⟩ := z_guard h
        refine z_icmp_le (pc := 45) (tgt := 50) X.1 dX5_refusesOne_45 (by decide) ⟨g5.1, g5.2⟩ h (fun c7 h => ?_) (fun c7 h => ?_)
        · refine z_aload_n (pc := 50) X.1 hl 1 rfl rfl dX5_refusesOne_50 ?_
          refine z_get1 (pc := 51) X.1 hW rfl iX5_refusesOne_1 1 (by decide) rfl (by decide +kernel) dX5_refusesOne_51 ?_
          refine z_iload_n (pc := 54) X.1 hl 2 rfl rfl dX5_refusesOne_54 ?_
          refine z_iload_n (pc := 55) X.1 hl 0 rfl rfl dX5_refusesOne_55 ?_
          obtain ⟨q6, eq6, h⟩ := z_bind h
          refine z_callSV (pc := 56) (n := 3) (As := [.ref (ad 2), .int (iO x1), .int (iO q4)]) (rest := []) X hW hl (C5_issuesIn l N 2 x1 q4 (by decide) μ eq6) gX5_refusesOne_X5_issuesIn rfl (by decide +kernel) rfl (by decide) rfl (Nat.le_of_ble_eq_true rfl) dX5_refusesOne_56 (fun H locs hW => ?_)
          exact CJ5_refusesOne_59 X N (L5_refusesOne_2 N k) ih x1 q6 h _ _ ls hW (lv_sub hl [1, 2] rfl)
        · refine z_iload_n (pc := 48) X.1 hl 2 rfl rfl dX5_refusesOne_48 ?_
          exact z_iret (pc := 49) X hW (z_p1 h) (z_p2 h) dX5_refusesOne_49
      · refine z_goto (pc := 26) (tgt := 59) X.1 dX5_refusesOne_26 (by decide) ?_
        exact CJ5_refusesOne_59 X N (L5_refusesOne_2 N k) ih x1 μ h _ _ ls hW (lv_sub hl [0, 1] rfl)
end
theorem C5_refusesOne (l : Launch) {D : va_G} {cy : ClassId × ClassId} {ad : Nat → Nat} (N : Nat)  (μ : mm) {res : (Int × mm)} (h : M5_refusesOne N μ = some res) : zI l yX5_refusesOne wsX5_refusesOne 3 D cy ad [.ref (ad 0)] μ res.1 res.2 := by
  refine zI.of RX5 rfl (by decide) rfl (Nat.le_of_ble_eq_true rfl) ?_
  intro p e s m args below meth c A X hW ls hl
  have hl : lv_has ls 3 [(0, .ref (ad 0))] := hl
  unfold M5_refusesOne at h
  refine z_iconst (pc := 0) X.1 dX5_refusesOne_0 ?_
  refine z_istore_n (pc := 1) (i := 1) X.1 [(1, .int (iO 0)), (0, .ref (ad 0))] hl rfl rfl (by decide) rfl dX5_refusesOne_1 (fun ls hl => ?_)
  exact CL5_refusesOne_2 X N N 0 μ h _ _ ls hW (lv_sub hl [1, 0] rfl)
-- X5_run
theorem iX5_run_1 : ∀ w ∈ wsX50, w ∈ wsX5_run := by decide +kernel
section
variable {p : Program} {l : Launch} {e : Env} {s : State} {m : MethodId} {args : Array Value} {below : List Frame} {meth : Method} {c : Code} {D : va_G} {cy : ClassId × ClassId} {ad : Nat → Nat} {A : Nat → Prop} {res : (Int × mm)}
theorem CL5_run_29 (X : zX p s m args meth c cX5_run RX5 wsX5_run 4 D cy ad (some .int) A) (N : Nat) : ∀ (k : Nat) (x1 : Int) (x2 : Int) (μ : mm), L5_run_29 N k x1 x2 μ = some res → ∀ (H : Heap) (locs : List Loc) (ls : Array Slot), zW D cy ad A s.heap μ H locs → lv_has ls 4 [(0, .ref (ad 0)), (1, .int (iO x1)), (2, .int (iO x2))] → W p l e (rmD 5) s m args below meth c H locs 0 0 (MQ below (zQi D cy ad A res.1 res.2) args s 0 0 A) (F0 m 29 ls []) := by
  intro k
  induction k with
  | zero =>
    intro x1 x2 μ h H locs ls hW hl
    exact absurd h (by rw [L5_run_29]; exact fun z => by cases z)
  | succ k ih =>
    intro x1 x2 μ h H locs ls hW hl
    rw [L5_run_29] at h
    refine z_iload_n (pc := 29) X.1 hl 2 rfl rfl dX5_run_29 ?_
    refine z_bipush (pc := 30) X.1 dX5_run_30 (by decide) ?_
    obtain ⟨g4, h⟩ := z_guard h
    refine z_icmp_gt (pc := 32) (tgt := 67) X.1 dX5_run_32 (by decide) ⟨g4, (by decide)⟩ h (fun c11 h => ?_) (fun c11 h => ?_)
    · refine z_bipush (pc := 67) X.1 dX5_run_67 (by decide) ?_
      exact z_iret (pc := 69) X hW (z_p1 h) (z_p2 h) dX5_run_69
    · refine z_aload_n (pc := 35) X.1 hl 0 rfl rfl dX5_run_35 ?_
      obtain ⟨q5, eq5, h⟩ := z_bind h
      refine z_callV1I (pc := 36) (n := 0) (As := []) (rest := []) X hW hl rfl (C5_refusesOne l N  μ eq5) gX5_run_X5_refusesOne rfl (by decide +kernel) rfl (by decide) rfl (Nat.le_of_ble_eq_true rfl) dX5_run_36 (fun H locs hW => ?_)
      refine z_istore_n (pc := 39) (i := 3) X.1 [(3, .int (iO q5.1)), (0, .ref (ad 0)), (1, .int (iO x1)), (2, .int (iO x2))] hl rfl rfl (by decide) rfl dX5_run_39 (fun ls hl => ?_)
      refine z_iload_n (pc := 40) X.1 hl 0 rfl rfl dX5_run_40 ?_
      obtain ⟨g6, h⟩ := z_guard h
      refine z_if_lt (pc := 41) (tgt := 54) X.1 dX5_run_41 (by decide) g6 h (fun c10 h => ?_) (fun c10 h => ?_)
      · refine z_aload_n (pc := 54) X.1 hl 1 rfl rfl dX5_run_54 ?_
        refine z_get1 (pc := 55) X.1 hW rfl iX5_run_1 1 (by decide) rfl (by decide +kernel) dX5_run_55 ?_
        obtain ⟨q7, eq7, h⟩ := z_bind h
        refine z_callSV (pc := 58) (n := 1) (As := [.ref (ad 2)]) (rest := []) X hW hl (C5_day l N 2 (by decide) q5.2 eq7) gX5_run_X5_day rfl (by decide +kernel) rfl (by decide) rfl (Nat.le_of_ble_eq_true rfl) dX5_run_58 (fun H locs hW => ?_)
        refine z_iinc (pc := 61) (i := 2) X.1 [(2, .int (iO (x2 + 1))), (3, .int (iO q5.1)), (0, .ref (ad 0)), (1, .int (iO x1))] hl 3 rfl rfl (by decide) rfl dX5_run_61 (fun ls hl => ?_)
        refine z_goto (pc := 64) (tgt := 29) X.1 dX5_run_64 (by decide) ?_
        exact ih x1 (x2 + 1) q7 h _ _ ls hW (lv_sub hl [2, 3, 0] rfl)
      · refine z_iload_n (pc := 44) X.1 hl 2 rfl rfl dX5_run_44 ?_
        obtain ⟨g8, h⟩ := z_guard h
        refine z_if_ne (pc := 45) (tgt := 52) X.1 dX5_run_45 (by decide) g8 h (fun c9 h => ?_) (fun c9 h => ?_)
        · refine z_iload_n (pc := 52) X.1 hl 0 rfl rfl dX5_run_52 ?_
          exact z_iret (pc := 53) X hW (z_p1 h) (z_p2 h) dX5_run_53
        · refine z_iload_n (pc := 48) X.1 hl 3 rfl rfl dX5_run_48 ?_
          refine z_goto (pc := 49) (tgt := 53) X.1 dX5_run_49 (by decide) ?_
          exact z_iret (pc := 53) X hW (z_p1 h) (z_p2 h) dX5_run_53
end
theorem C5_run (l : Launch) {D : va_G} {cy : ClassId × ClassId} {ad : Nat → Nat} (N : Nat) (a0 : Int) (μ : mm) {res : (Int × mm)} (h : M5_run N a0 μ = some res) : zI l yX5_run wsX5_run 5 D cy ad [.ref (ad 0), .int (iO a0)] μ res.1 res.2 := by
  refine zI.of RX5 rfl (by decide) rfl (Nat.le_of_ble_eq_true rfl) ?_
  intro p e s m args below meth c A X hW ls hl
  have hl : lv_has ls 4 [(0, .ref (ad 0)), (1, .int (iO a0))] := hl
  unfold M5_run at h
  refine z_iload_n (pc := 0) X.1 hl 1 rfl rfl dX5_run_0 ?_
  refine z_iconst (pc := 1) X.1 dX5_run_1 ?_
  refine z_iconst (pc := 2) X.1 dX5_run_2 ?_
  obtain ⟨q1, eq1, h⟩ := z_bind h
  refine z_callSI (pc := 3) (n := 3) (As := [.int (iO a0), .int (iO 0), .int (iO 1)]) (rest := []) X hW hl (C5_isIn l N a0 0 1 μ eq1) gX5_run_X5_isIn rfl (by decide +kernel) rfl (by decide) rfl (Nat.le_of_ble_eq_true rfl) dX5_run_3 (fun H locs hW => ?_)
  obtain ⟨g2, h⟩ := z_guard h
  refine z_if_ne (pc := 6) (tgt := 16) X.1 dX5_run_6 (by decide) g2 h (fun c13 h => ?_) (fun c13 h => ?_)
  · refine z_aload_n (pc := 16) X.1 hl 0 rfl rfl dX5_run_16 ?_
    refine z_get1 (pc := 17) X.1 hW rfl iX5_run_1 0 (by decide) rfl (by decide +kernel) dX5_run_17 ?_
    refine z_aload_n (pc := 20) X.1 hl 0 rfl rfl dX5_run_20 ?_
    refine z_get1 (pc := 21) X.1 hW rfl iX5_run_1 1 (by decide) rfl (by decide +kernel) dX5_run_21 ?_
    obtain ⟨q3, eq3, h⟩ := z_bind h
    refine z_callSV (pc := 24) (n := 2) (As := [.ref (ad 1), .ref (ad 2)]) (rest := []) X hW hl (C5_copies l N 1 2 (by decide) (by decide) μ eq3) gX5_run_X5_copies rfl (by decide +kernel) rfl (by decide) rfl (Nat.le_of_ble_eq_true rfl) dX5_run_24 (fun H locs hW => ?_)
    refine z_iconst (pc := 27) X.1 dX5_run_27 ?_
    refine z_istore_n (pc := 28) (i := 2) X.1 [(2, .int (iO 0)), (0, .ref (ad 0)), (1, .int (iO a0))] hl rfl rfl (by decide) rfl dX5_run_28 (fun ls hl => ?_)
    exact CL5_run_29 X N N a0 0 q3 h _ _ ls hW (lv_sub hl [1, 2, 0] rfl)
  · refine z_aload_n (pc := 9) X.1 hl 0 rfl rfl dX5_run_9 ?_
    refine z_bipush (pc := 10) X.1 dX5_run_10 (by decide) ?_
    obtain ⟨q12, eq12, h⟩ := z_bind h
    refine z_callV1I (pc := 12) (n := 1) (As := [.int (iO (-2))]) (rest := []) X hW hl rfl (C5_no l N (-2) μ eq12) gX5_run_X5_no rfl (by decide +kernel) rfl (by decide) rfl (Nat.le_of_ble_eq_true rfl) dX5_run_12 (fun H locs hW => ?_)
    exact z_iret (pc := 15) X hW (z_p1 h) (z_p2 h) dX5_run_15
-- X5_servesAll
theorem iX5_servesAll_1 : ∀ w ∈ wsX50, w ∈ wsX5_servesAll := by decide +kernel
section
variable {p : Program} {l : Launch} {e : Env} {s : State} {m : MethodId} {args : Array Value} {below : List Frame} {meth : Method} {c : Code} {D : va_G} {cy : ClassId × ClassId} {ad : Nat → Nat} {A : Nat → Prop} {res : (Int × mm)}
theorem CL5_servesAll_20 (X : zX p s m args meth c cX5_servesAll RX5 wsX5_servesAll 4 D cy ad (some .boolean) A) (N : Nat) : ∀ (k : Nat) (x2 : Int) (x3 : Int) (μ : mm), L5_servesAll_20 N k x2 x3 μ = some res → ∀ (H : Heap) (locs : List Loc) (ls : Array Slot), zW D cy ad A s.heap μ H locs → lv_has ls 4 [(0, .ref (ad 0)), (2, .int (iO x2)), (3, .int (iO x3))] → W p l e (rmD 5) s m args below meth c H locs 0 0 (MQ below (zQi D cy ad A res.1 res.2) args s 0 0 A) (F0 m 20 ls []) := by
  intro k
  induction k with
  | zero =>
    intro x2 x3 μ h H locs ls hW hl
    exact absurd h (by rw [L5_servesAll_20]; exact fun z => by cases z)
  | succ k ih =>
    intro x2 x3 μ h H locs ls hW hl
    rw [L5_servesAll_20] at h
    refine z_iload_n (pc := 20) X.1 hl 2 rfl rfl dX5_servesAll_20 ?_
    refine z_iload_n (pc := 21) X.1 hl 1 rfl rfl dX5_servesAll_21 ?_
    obtain ⟨g3, h⟩ := z_guard h
    refine z_icmp_ge (pc := 22) (tgt := 47) X.1 dX5_servesAll_22 (by decide) ⟨g3.1, g3.2⟩ h (fun c8 h => ?_) (fun c8 h => ?_)
    · refine z_iconst (pc := 47) X.1 dX5_servesAll_47 ?_
      exact z_zret (pc := 48) X hW (by decide) (z_p1 h) (z_p2 h) dX5_servesAll_48
    · refine z_aload_n (pc := 25) X.1 hl 0 rfl rfl dX5_servesAll_25 ?_
      obtain ⟨q4, eq4, h⟩ := z_bind h
      refine z_callV1I (pc := 26) (n := 0) (As := []) (rest := []) X hW hl rfl (C5_refusesOne l N  μ eq4) gX5_servesAll_X5_refusesOne rfl (by decide +kernel) rfl (by decide) rfl (Nat.le_of_ble_eq_true rfl) dX5_servesAll_26 (fun H locs hW => ?_)
      obtain ⟨g5, h⟩ := z_guard h
      refine z_if_lt (pc := 29) (tgt := 34) X.1 dX5_servesAll_29 (by decide) g5 h (fun c7 h => ?_) (fun c7 h => ?_)
      · refine z_aload_n (pc := 34) X.1 hl 0 rfl rfl dX5_servesAll_34 ?_
        refine z_get1 (pc := 35) X.1 hW rfl iX5_servesAll_1 1 (by decide) rfl (by decide +kernel) dX5_servesAll_35 ?_
        obtain ⟨q6, eq6, h⟩ := z_bind h
        refine z_callSV (pc := 38) (n := 1) (As := [.ref (ad 2)]) (rest := []) X hW hl (C5_day l N 2 (by decide) q4.2 eq6) gX5_servesAll_X5_day rfl (by decide +kernel) rfl (by decide) rfl (Nat.le_of_ble_eq_true rfl) dX5_servesAll_38 (fun H locs hW => ?_)
        refine z_iinc (pc := 41) (i := 3) X.1 [(3, .int (iO (x3 + 1))), (0, .ref (ad 0)), (2, .int (iO x2))] hl 2 rfl rfl (by decide) rfl dX5_servesAll_41 (fun ls hl => ?_)
        refine z_goto (pc := 44) (tgt := 20) X.1 dX5_servesAll_44 (by decide) ?_
        exact ih x2 (x3 + 1) q6 h _ _ ls hW (lv_sub hl [1, 2, 0] rfl)
      · refine z_iconst (pc := 32) X.1 dX5_servesAll_32 ?_
        exact z_zret (pc := 33) X hW (by decide) (z_p1 h) (z_p2 h) dX5_servesAll_33
end
theorem C5_servesAll (l : Launch) {D : va_G} {cy : ClassId × ClassId} {ad : Nat → Nat} (N : Nat) (a0 : Int) (a1 : Int) (μ : mm) {res : (Int × mm)} (h : M5_servesAll N a0 a1 μ = some res) : zI l yX5_servesAll wsX5_servesAll 5 D cy ad [.ref (ad 0), .int (iO a0), .int (iO a1)] μ res.1 res.2 := by
  refine zI.of RX5 rfl (by decide) rfl (Nat.le_of_ble_eq_true rfl) ?_
  intro p e s m args below meth c A X hW ls hl
  have hl : lv_has ls 4 [(0, .ref (ad 0)), (1, .int (iO a0)), (2, .int (iO a1))] := hl
  unfold M5_servesAll at h
  refine z_aload_n (pc := 0) X.1 hl 0 rfl rfl dX5_servesAll_0 ?_
  refine z_get1 (pc := 1) X.1 hW rfl iX5_servesAll_1 0 (by decide) rfl (by decide +kernel) dX5_servesAll_1 ?_
  refine z_aload_n (pc := 4) X.1 hl 0 rfl rfl dX5_servesAll_4 ?_
  refine z_get1 (pc := 5) X.1 hW rfl iX5_servesAll_1 1 (by decide) rfl (by decide +kernel) dX5_servesAll_5 ?_
  obtain ⟨q1, eq1, h⟩ := z_bind h
  refine z_callSV (pc := 8) (n := 2) (As := [.ref (ad 1), .ref (ad 2)]) (rest := []) X hW hl (C5_copies l N 1 2 (by decide) (by decide) μ eq1) gX5_servesAll_X5_copies rfl (by decide +kernel) rfl (by decide) rfl (Nat.le_of_ble_eq_true rfl) dX5_servesAll_8 (fun H locs hW => ?_)
  refine z_aload_n (pc := 11) X.1 hl 0 rfl rfl dX5_servesAll_11 ?_
  refine z_get1 (pc := 12) X.1 hW rfl iX5_servesAll_1 1 (by decide) rfl (by decide +kernel) dX5_servesAll_12 ?_
  refine z_iconst (pc := 15) X.1 dX5_servesAll_15 ?_
  refine z_iload_n (pc := 16) X.1 hl 1 rfl rfl dX5_servesAll_16 ?_
  obtain ⟨μ2, eμ2, h⟩ := z_bnd h
  refine z_iast (pc := 17) X.1 hW rfl ⟨(by decide), (by decide)⟩ dX5_servesAll_17 (fun H locs hW => ?_)
  replace hW : zW D cy ad A s.heap μ2 H locs := by rw [eμ2]; exact hW
  refine z_iconst (pc := 18) X.1 dX5_servesAll_18 ?_
  refine z_istore_n (pc := 19) (i := 3) X.1 [(3, .int (iO 0)), (0, .ref (ad 0)), (1, .int (iO a0)), (2, .int (iO a1))] hl rfl rfl (by decide) rfl dX5_servesAll_19 (fun ls hl => ?_)
  exact CL5_servesAll_20 X N N a1 0 μ2 h _ _ ls hW (lv_sub hl [1, 3, 0] rfl)
-- X5_stock
section
variable {p : Program} {l : Launch} {e : Env} {s : State} {m : MethodId} {args : Array Value} {below : List Frame} {meth : Method} {c : Code} {D : va_G} {cy : ClassId × ClassId} {ad : Nat → Nat} {A : Nat → Prop} {res : (Int × mm)}
theorem CL5_stock_20 (X : zX p s m args meth c cX5_stock RX5 wsX5_stock 4 D cy ad (some .int) A) (N : Nat) : ∀ (k : Nat) (x1 : Int) (x3 : Int) (μ : mm), L5_stock_20 N k x1 x3 μ = some res → ∀ (H : Heap) (locs : List Loc) (ls : Array Slot), zW D cy ad A s.heap μ H locs → lv_has ls 4 [(0, .ref (ad 0)), (1, .int (iO x1)), (3, .int (iO x3))] → W p l e (rmD 6) s m args below meth c H locs 0 0 (MQ below (zQi D cy ad A res.1 res.2) args s 0 0 A) (F0 m 20 ls []) := by
  intro k
  induction k with
  | zero =>
    intro x1 x3 μ h H locs ls hW hl
    exact absurd h (by rw [L5_stock_20]; exact fun z => by cases z)
  | succ k ih =>
    intro x1 x3 μ h H locs ls hW hl
    rw [L5_stock_20] at h
    refine z_iload_n (pc := 20) X.1 hl 2 rfl rfl dX5_stock_20 ?_
    refine z_sipush (pc := 21) X.1 dX5_stock_21 (by decide) ?_
    obtain ⟨g3, h⟩ := z_guard h
    refine z_icmp_gt (pc := 24) (tgt := 44) X.1 dX5_stock_24 (by decide) ⟨g3, (by decide)⟩ h (fun c7 h => ?_) (fun c7 h => ?_)
    · refine z_bipush (pc := 44) X.1 dX5_stock_44 (by decide) ?_
      exact z_iret (pc := 46) X hW (z_p1 h) (z_p2 h) dX5_stock_46
    · refine z_aload_n (pc := 27) X.1 hl 0 rfl rfl dX5_stock_27 ?_
      refine z_iload_n (pc := 28) X.1 hl 2 rfl rfl dX5_stock_28 ?_
      refine z_iload_n (pc := 29) X.1 hl 1 rfl rfl dX5_stock_29 ?_
      obtain ⟨q4, eq4, h⟩ := z_bind h
      refine z_callV1I (pc := 30) (n := 2) (As := [.int (iO x3), .int (iO x1)]) (rest := []) X hW hl rfl (C5_servesAll l N x3 x1 μ eq4) gX5_stock_X5_servesAll rfl (by decide +kernel) rfl (by decide) rfl (Nat.le_of_ble_eq_true rfl) dX5_stock_30 (fun H locs hW => ?_)
      obtain ⟨g5, h⟩ := z_guard h
      refine z_if_eq (pc := 33) (tgt := 38) X.1 dX5_stock_33 (by decide) g5 h (fun c6 h => ?_) (fun c6 h => ?_)
      · refine z_iinc (pc := 38) (i := 3) X.1 [(3, .int (iO (x3 + 1))), (0, .ref (ad 0)), (1, .int (iO x1))] hl 2 rfl rfl (by decide) rfl dX5_stock_38 (fun ls hl => ?_)
        refine z_goto (pc := 41) (tgt := 20) X.1 dX5_stock_41 (by decide) ?_
        exact ih x1 (x3 + 1) q4.2 h _ _ ls hW (lv_sub hl [1, 2, 0] rfl)
      · refine z_iload_n (pc := 36) X.1 hl 2 rfl rfl dX5_stock_36 ?_
        exact z_iret (pc := 37) X hW (z_p1 h) (z_p2 h) dX5_stock_37
end
theorem C5_stock (l : Launch) {D : va_G} {cy : ClassId × ClassId} {ad : Nat → Nat} (N : Nat) (a0 : Int) (μ : mm) {res : (Int × mm)} (h : M5_stock N a0 μ = some res) : zI l yX5_stock wsX5_stock 6 D cy ad [.ref (ad 0), .int (iO a0)] μ res.1 res.2 := by
  refine zI.of RX5 rfl (by decide) rfl (Nat.le_of_ble_eq_true rfl) ?_
  intro p e s m args below meth c A X hW ls hl
  have hl : lv_has ls 4 [(0, .ref (ad 0)), (1, .int (iO a0))] := hl
  unfold M5_stock at h
  refine z_iload_n (pc := 0) X.1 hl 1 rfl rfl dX5_stock_0 ?_
  refine z_iconst (pc := 1) X.1 dX5_stock_1 ?_
  refine z_bipush (pc := 2) X.1 dX5_stock_2 (by decide) ?_
  obtain ⟨q1, eq1, h⟩ := z_bind h
  refine z_callSI (pc := 4) (n := 3) (As := [.int (iO a0), .int (iO 1), .int (iO 30)]) (rest := []) X hW hl (C5_wrongBy l N a0 1 30 μ eq1) gX5_stock_X5_wrongBy rfl (by decide +kernel) rfl (by decide) rfl (Nat.le_of_ble_eq_true rfl) dX5_stock_4 (fun H locs hW => ?_)
  refine z_istore_n (pc := 7) (i := 2) X.1 [(2, .int (iO q1)), (0, .ref (ad 0)), (1, .int (iO a0))] hl rfl rfl (by decide) rfl dX5_stock_7 (fun ls hl => ?_)
  refine z_iload_n (pc := 8) X.1 hl 0 rfl rfl dX5_stock_8 ?_
  obtain ⟨g2, h⟩ := z_guard h
  refine z_if_eq (pc := 9) (tgt := 18) X.1 dX5_stock_9 (by decide) g2 h (fun c9 h => ?_) (fun c9 h => ?_)
  · refine z_iconst (pc := 18) X.1 dX5_stock_18 ?_
    refine z_istore_n (pc := 19) (i := 3) X.1 [(3, .int (iO 0)), (2, .int (iO q1)), (0, .ref (ad 0)), (1, .int (iO a0))] hl rfl rfl (by decide) rfl dX5_stock_19 (fun ls hl => ?_)
    exact CL5_stock_20 X N N a0 0 μ h _ _ ls hW (lv_sub hl [2, 3, 0] rfl)
  · refine z_aload_n (pc := 12) X.1 hl 1 rfl rfl dX5_stock_12 ?_
    refine z_iload_n (pc := 13) X.1 hl 0 rfl rfl dX5_stock_13 ?_
    obtain ⟨q8, eq8, h⟩ := z_bind h
    refine z_callV1I (pc := 14) (n := 1) (As := [.int (iO q1)]) (rest := []) X hW hl rfl (C5_no l N q1 μ eq8) gX5_stock_X5_no rfl (by decide +kernel) rfl (by decide) rfl (Nat.le_of_ble_eq_true rfl) dX5_stock_14 (fun H locs hW => ?_)
    exact z_iret (pc := 17) X hW (z_p1 h) (z_p2 h) dX5_stock_17
-- X5_throughOf
theorem iX5_throughOf_1 : ∀ w ∈ wsX50, w ∈ wsX5_throughOf := by decide +kernel
theorem C5_throughOf (l : Launch) {D : va_G} {cy : ClassId × ClassId} {ad : Nat → Nat} (N : Nat) (a0 : Nat) (a1 : Int) (h_a0 : kd a0 = 2 ∧ al a0 = 52) (μ0 : mm) {res : Int} (h : M5_throughOf N a0 a1 μ0 = some res) : zI l yX5_throughOf wsX5_throughOf 1 D cy ad [.ref (ad 0), .ref (ad a0), .int (iO a1)] μ0 res μ0 := by
  refine zI.of RX5 rfl (by decide) rfl (Nat.le_of_ble_eq_true rfl) ?_
  intro p e s m args below meth c A X hW ls hl
  have hl : lv_has ls 3 [(0, .ref (ad 0)), (1, .ref (ad a0)), (2, .int (iO a1))] := hl
  unfold M5_throughOf at h
  refine z_aload_n (pc := 0) X.1 hl 1 rfl rfl dX5_throughOf_0 ?_
  refine z_iload_n (pc := 1) X.1 hl 2 rfl rfl dX5_throughOf_1 ?_
  refine z_iconst (pc := 2) X.1 dX5_throughOf_2 ?_
  refine z_callSI (pc := 3) (n := 2) (As := [.int (iO a1), .int (iO 4)]) (rest := [.ref (ad a0)]) X hW hl (C5_of l N a1 4 μ0) gX5_throughOf_X5_of rfl (by decide +kernel) rfl (by decide) rfl (Nat.le_of_ble_eq_true rfl) dX5_throughOf_3 (fun H locs hW => ?_)
  obtain ⟨g1, h⟩ := z_guard h
  refine z_iald (pc := 6) X.1 hW h_a0.1 ⟨g1.1, (z_al52 h_a0 g1.2)⟩ dX5_throughOf_6 ?_
  refine z_aload_n (pc := 7) X.1 hl 0 rfl rfl dX5_throughOf_7 ?_
  refine z_get1 (pc := 8) X.1 hW rfl iX5_throughOf_1 0 (by decide) rfl (by decide +kernel) dX5_throughOf_8 ?_
  refine z_iload_n (pc := 11) X.1 hl 2 rfl rfl dX5_throughOf_11 ?_
  refine z_iconst (pc := 12) X.1 dX5_throughOf_12 ?_
  refine z_callSI (pc := 13) (n := 2) (As := [.int (iO a1), .int (iO 4)]) (rest := [.ref (ad 1), .int (iO (μ0 a0 (((4 + (6 * a1)) + 4)).toNat))]) X hW hl (C5_of l N a1 4 μ0) gX5_throughOf_X5_of rfl (by decide +kernel) rfl (by decide) rfl (Nat.le_of_ble_eq_true rfl) dX5_throughOf_13 (fun H locs hW => ?_)
  obtain ⟨g2, h⟩ := z_guard h
  refine z_iald (pc := 16) X.1 hW rfl ⟨g2.1, g2.2⟩ dX5_throughOf_16 ?_
  refine z_isub (pc := 17) X.1 dX5_throughOf_17 ?_
  exact z_iret (pc := 18) X hW (Option.some.inj h) rfl dX5_throughOf_18
