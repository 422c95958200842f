/-! MY ROWS: three of the JDK's own methods, by hand: bitCount (of 0 .. 255), checkIndex twice -/
def bc_us (x y : Int32) : Int32 := (x.toUInt32 >>> (y.toUInt32 &&& Int32.toUInt32 31)).toInt32
def bc_1 (x : Int32) : Int32 := x - (bc_us x 1 &&& 1431655765)
def bc_2 (x : Int32) : Int32 := (x &&& 858993459) + (bc_us x 2 &&& 858993459)
def bc_3 (x : Int32) : Int32 := (x + bc_us x 4) &&& 252645135
def bc_4 (x : Int32) : Int32 := x + bc_us x 8
def bc_5 (x : Int32) : Int32 := x + bc_us x 16
theorem bc_all : ∀ k, k < 256 → bc_5 (bc_4 (bc_3 (bc_2 (bc_1 (nI k))))) &&& 63 = iO (zpop (k : Int)) := by decide +kernel
theorem C6_bitCount_0f7a4 (l : Launch) {D : va_G} {cy : ClassId × ClassId} {ad : Nat → Nat} (N : Nat) (a0 : Int) (μ0 : mm) {res : Int} (h : M6_bitCount_0f7a4 N a0 μ0 = some res) : zI l yJ6_bitCount_0f7a4 wsJ6_bitCount_0f7a4 0 D cy ad [.int (iO a0)] μ0 res μ0 := by
  refine zI.of RJ6 rfl (by decide) rfl (Nat.le_of_ble_eq_true rfl) ?_
  intro p e s m args below meth c A X hW ls hl
  unfold M6_bitCount_0f7a4 at h
  obtain ⟨g, h⟩ := z_guard h
  have hr := Option.some.inj h
  have hk : bc_5 (bc_4 (bc_3 (bc_2 (bc_1 (iO a0))))) &&& 63 = iO res := by
    obtain ⟨k, rfl⟩ := Int.eq_ofNat_of_zero_le g.1
    rw [iO_nat, ← hr]
    exact bc_all k (by omega)
  have hl : lv_has ls 1 [(0, .int (iO a0))] := hl
  have hx := X.1.1
  have hb := X.1.2.1
  have hw1 : (Cond.constant RJ6 265 (1431655765)).before args s = true := X.1.2.2.2.2.1 _ (by decide +kernel)
  have hw2 : (Cond.constant RJ6 266 (858993459)).before args s = true := X.1.2.2.2.2.1 _ (by decide +kernel)
  have hw3 : (Cond.constant RJ6 267 (252645135)).before args s = true := X.1.2.2.2.2.1 _ (by decide +kernel)
  generalize iO a0 = x at hl hk
  refine lv_iload_n (pc := 0) hx hb dJ6_bitCount_0f7a4_0 rfl (lv_at hl 0 rfl) ?_
  refine lv_iload_n (pc := 1) hx hb dJ6_bitCount_0f7a4_1 rfl (lv_at hl 0 rfl) ?_
  refine lv_iconst (pc := 2) (v := 1) hx hb dJ6_bitCount_0f7a4_2 (by decide) ?_
  refine lv_iushr (pc := 3) (v := bc_us x 1) hx hb dJ6_bitCount_0f7a4_3 rfl ?_
  refine lv_ldcw (pc := 4) hx hb X.1.2.2.2.1 hw1 dJ6_bitCount_0f7a4_4 ?_
  refine lv_iand (pc := 7) hx hb dJ6_bitCount_0f7a4_7 ?_
  refine lv_isub (pc := 8) hx hb dJ6_bitCount_0f7a4_8 ?_
  refine lv_istore_n (pc := 9) (i := 0) (lv' := [(0, .int (bc_1 x))]) hx hb dJ6_bitCount_0f7a4_9 rfl hl (by decide) rfl (fun ls hl => ?_)
  generalize bc_1 x = x at hl hk
  refine lv_iload_n (pc := 10) hx hb dJ6_bitCount_0f7a4_10 rfl (lv_at hl 0 rfl) ?_
  refine lv_ldcw (pc := 11) hx hb X.1.2.2.2.1 hw2 dJ6_bitCount_0f7a4_11 ?_
  refine lv_iand (pc := 14) hx hb dJ6_bitCount_0f7a4_14 ?_
  refine lv_iload_n (pc := 15) hx hb dJ6_bitCount_0f7a4_15 rfl (lv_at hl 0 rfl) ?_
  refine lv_iconst (pc := 16) (v := 2) hx hb dJ6_bitCount_0f7a4_16 (by decide) ?_
  refine lv_iushr (pc := 17) (v := bc_us x 2) hx hb dJ6_bitCount_0f7a4_17 rfl ?_
  refine lv_ldcw (pc := 18) hx hb X.1.2.2.2.1 hw2 dJ6_bitCount_0f7a4_18 ?_
  refine lv_iand (pc := 21) hx hb dJ6_bitCount_0f7a4_21 ?_
  refine lv_iadd (pc := 22) hx hb dJ6_bitCount_0f7a4_22 ?_
  refine lv_istore_n (pc := 23) (i := 0) (lv' := [(0, .int (bc_2 x))]) hx hb dJ6_bitCount_0f7a4_23 rfl hl (by decide) rfl (fun ls hl => ?_)
  generalize bc_2 x = x at hl hk
  refine lv_iload_n (pc := 24) hx hb dJ6_bitCount_0f7a4_24 rfl (lv_at hl 0 rfl) ?_
  refine lv_iload_n (pc := 25) hx hb dJ6_bitCount_0f7a4_25 rfl (lv_at hl 0 rfl) ?_
  refine lv_iconst (pc := 26) (v := 4) hx hb dJ6_bitCount_0f7a4_26 (by decide) ?_
  refine lv_iushr (pc := 27) (v := bc_us x 4) hx hb dJ6_bitCount_0f7a4_27 rfl ?_
  refine lv_iadd (pc := 28) hx hb dJ6_bitCount_0f7a4_28 ?_
  refine lv_ldcw (pc := 29) hx hb X.1.2.2.2.1 hw3 dJ6_bitCount_0f7a4_29 ?_
  refine lv_iand (pc := 32) hx hb dJ6_bitCount_0f7a4_32 ?_
  refine lv_istore_n (pc := 33) (i := 0) (lv' := [(0, .int (bc_3 x))]) hx hb dJ6_bitCount_0f7a4_33 rfl hl (by decide) rfl (fun ls hl => ?_)
  generalize bc_3 x = x at hl hk
  refine lv_iload_n (pc := 34) hx hb dJ6_bitCount_0f7a4_34 rfl (lv_at hl 0 rfl) ?_
  refine lv_iload_n (pc := 35) hx hb dJ6_bitCount_0f7a4_35 rfl (lv_at hl 0 rfl) ?_
  refine lv_bipush (pc := 36) (v := 8) hx hb dJ6_bitCount_0f7a4_36 (by decide) ?_
  refine lv_iushr (pc := 38) (v := bc_us x 8) hx hb dJ6_bitCount_0f7a4_38 rfl ?_
  refine lv_iadd (pc := 39) hx hb dJ6_bitCount_0f7a4_39 ?_
  refine lv_istore_n (pc := 40) (i := 0) (lv' := [(0, .int (bc_4 x))]) hx hb dJ6_bitCount_0f7a4_40 rfl hl (by decide) rfl (fun ls hl => ?_)
  generalize bc_4 x = x at hl hk
  refine lv_iload_n (pc := 41) hx hb dJ6_bitCount_0f7a4_41 rfl (lv_at hl 0 rfl) ?_
  refine lv_iload_n (pc := 42) hx hb dJ6_bitCount_0f7a4_42 rfl (lv_at hl 0 rfl) ?_
  refine lv_bipush (pc := 43) (v := 16) hx hb dJ6_bitCount_0f7a4_43 (by decide) ?_
  refine lv_iushr (pc := 45) (v := bc_us x 16) hx hb dJ6_bitCount_0f7a4_45 rfl ?_
  refine lv_iadd (pc := 46) hx hb dJ6_bitCount_0f7a4_46 ?_
  refine lv_istore_n (pc := 47) (i := 0) (lv' := [(0, .int (bc_5 x))]) hx hb dJ6_bitCount_0f7a4_47 rfl hl (by decide) rfl (fun ls hl => ?_)
  refine lv_iload_n (pc := 48) hx hb dJ6_bitCount_0f7a4_48 rfl (lv_at hl 0 rfl) ?_
  refine lv_bipush (pc := 49) (v := 63) hx hb dJ6_bitCount_0f7a4_49 (by decide) ?_
  refine lv_iand (pc := 51) hx hb dJ6_bitCount_0f7a4_51 ?_
  rw [hk]
  exact z_iret (pc := 52) X hW rfl rfl dJ6_bitCount_0f7a4_52
theorem C3_checkIndex_8e157 (l : Launch) {D : va_G} {cy : ClassId × ClassId} {ad : Nat → Nat} (a0 a1 : Int) (v : Value) (hv : v = .null ∨ ∃ t : Nat, v = .ref t) (g : inR a0 ∧ inR a1) (h0 : 0 ≤ a0) (h1 : a0 < a1) (μ0 : mm) : zI l yJ3_checkIndex_8e157 wsJ3_checkIndex_8e157 0 D cy ad [.int (iO a0), .int (iO a1), v] μ0 a0 μ0 := by
  rcases hv with rfl | ⟨t, rfl⟩
  · refine zI.of RJ3 rfl (by decide) rfl (Nat.le_of_ble_eq_true rfl) ?_
    intro p e s m args below meth c A X hW ls hl
    have hl : lv_has ls 3 [(0, .int (iO a0)), (1, .int (iO a1)), (2, .null)] := hl
    refine z_iload_n (pc := 0) X.1 hl 0 rfl rfl dJ3_checkIndex_8e157_0 ?_
    refine z_if_lt (pc := 1) (tgt := 9) (a := none) (b := some a0) (res := a0) X.1 dJ3_checkIndex_8e157_1 (by decide) g.1 (if_neg (by omega)) (fun c1 h => by cases h) (fun c1 h => ?_)
    refine z_iload_n (pc := 4) X.1 hl 0 rfl rfl dJ3_checkIndex_8e157_4 ?_
    refine z_iload_n (pc := 5) X.1 hl 1 rfl rfl dJ3_checkIndex_8e157_5 ?_
    refine z_icmp_lt (pc := 6) (tgt := 16) (a := some a0) (b := none) (res := a0) X.1 dJ3_checkIndex_8e157_6 (by decide) g (if_pos h1) (fun c1 h => ?_) (fun c1 h => by cases h)
    refine z_iload_n (pc := 16) X.1 hl 0 rfl rfl dJ3_checkIndex_8e157_16 ?_
    exact z_iret (pc := 17) X hW rfl rfl dJ3_checkIndex_8e157_17
  · refine zI.of RJ3 rfl (by decide) rfl (Nat.le_of_ble_eq_true rfl) ?_
    intro p e s m args below meth c A X hW ls hl
    have hl : lv_has ls 3 [(0, .int (iO a0)), (1, .int (iO a1)), (2, .ref t)] := hl
    refine z_iload_n (pc := 0) X.1 hl 0 rfl rfl dJ3_checkIndex_8e157_0 ?_
    refine z_if_lt (pc := 1) (tgt := 9) (a := none) (b := some a0) (res := a0) X.1 dJ3_checkIndex_8e157_1 (by decide) g.1 (if_neg (by omega)) (fun c1 h => by cases h) (fun c1 h => ?_)
    refine z_iload_n (pc := 4) X.1 hl 0 rfl rfl dJ3_checkIndex_8e157_4 ?_
    refine z_iload_n (pc := 5) X.1 hl 1 rfl rfl dJ3_checkIndex_8e157_5 ?_
    refine z_icmp_lt (pc := 6) (tgt := 16) (a := some a0) (b := none) (res := a0) X.1 dJ3_checkIndex_8e157_6 (by decide) g (if_pos h1) (fun c1 h => ?_) (fun c1 h => by cases h)
    refine z_iload_n (pc := 16) X.1 hl 0 rfl rfl dJ3_checkIndex_8e157_16 ?_
    exact z_iret (pc := 17) X hW rfl rfl dJ3_checkIndex_8e157_17
theorem C0_checkIndex_df160 (l : Launch) {D : va_G} {cy : ClassId × ClassId} {ad : Nat → Nat} (N : Nat) (a0 a1 : Int) (μ0 : mm) {res : mm} (h : M0_checkIndex_df160 N a0 a1 μ0 = some res) : zV l yJ0_checkIndex_df160 wsJ0_checkIndex_df160 1 D cy ad [.int (iO a0), .int (iO a1)] μ0 μ0 := by
  unfold M0_checkIndex_df160 at h
  obtain ⟨g, h⟩ := z_guard h
  refine zV.of RJ0 rfl (by decide) rfl (Nat.le_of_ble_eq_true rfl) ?_
  intro p e s m args below meth c A X hW ls hl
  have hl : lv_has ls 2 [(0, .int (iO a0)), (1, .int (iO a1))] := hl
  refine z_iload_n (pc := 0) X.1 hl 0 rfl rfl dJ0_checkIndex_df160_0 ?_
  refine z_iload_n (pc := 1) X.1 hl 1 rfl rfl dJ0_checkIndex_df160_1 ?_
  refine z_getsQ (pc := 2) X hW (by decide +kernel) dJ0_checkIndex_df160_2 ?_ (fun t => ?_)
  · refine z_callSI (pc := 5) (n := 3) (As := [.int (iO a0), .int (iO a1), .null]) (rest := []) X hW hl (C3_checkIndex_8e157 l a0 a1 .null (Or.inl rfl) ⟨g.1, g.2.1⟩ g.2.2.1 g.2.2.2 μ0) gJ0_checkIndex_df160_J3_checkIndex_8e157 rfl (by decide +kernel) rfl (by decide) rfl (by decide) dJ0_checkIndex_df160_5 (fun H locs hW => ?_)
    refine z_pop (pc := 8) X.1 dJ0_checkIndex_df160_8 rfl ?_
    exact z_vret (pc := 9) X hW rfl dJ0_checkIndex_df160_9
  · refine z_callSI (pc := 5) (n := 3) (As := [.int (iO a0), .int (iO a1), .ref t]) (rest := []) X hW hl (C3_checkIndex_8e157 l a0 a1 (.ref t) (Or.inr ⟨t, rfl⟩) ⟨g.1, g.2.1⟩ g.2.2.1 g.2.2.2 μ0) gJ0_checkIndex_df160_J3_checkIndex_8e157 rfl (by decide +kernel) rfl (by decide) rfl (by decide) dJ0_checkIndex_df160_5 (fun H locs hW => ?_)
    refine z_pop (pc := 8) X.1 dJ0_checkIndex_df160_8 rfl ?_
    exact z_vret (pc := 9) X hW rfl dJ0_checkIndex_df160_9
