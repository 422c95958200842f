theorem bch_ok (b k : Nat) : (bytS.getD (b - 80) []).getD k 0 = iO (bch b k) := (iO_of _).symm
theorem blen_nat (b : Nat) : Int32.ofNat (lenS.getD (b - 80) 0) = iO (blen b) := (iO_nat _).symm
theorem blen_lt : ∀ i, i < 6 → lenS.getD i 0 < 2 ^ 31 := by decide +kernel
theorem iO_byte {x : Int} : (iO x).toInt8.toInt32 = iO ((x + 128) % 256 - 128) := by
  rw [← iO_of (iO x).toInt8.toInt32]
  congr 1
  rw [Int8.toInt_toInt32]
  show ((iO x).toInt8).toInt = _
  have h : (iO x).toInt8 = Int8.ofInt x := by
    apply Int8.toInt_inj.mp
    rw [Int32.toInt_toInt8, iO, Int32.toInt_ofInt, Int8.toInt_ofInt]
    exact Int.bmod_bmod_of_dvd (by decide)
  rw [h, Int8.toInt_ofInt]
  show Int.bmod x 256 = _
  rw [Int.bmod_def]
  split <;> omega
section ZS
variable {p : Program} {l : Launch} {e : Env} {R : Room} {s : State} {m : MethodId} {args : Array Value} {below : List Frame} {meth : Method} {c : Code} {H : Heap} {locs : List Loc} {cells slots : Nat} {Q : State → Prop}
variable {cc bytes : ByteArray} {own : String} {Ts wy wy' : List Cond} {nL pc maxL n index d d' o b : Nat} {ls : Array Slot} {rest st As : List Value} {D : va_G} {cy : ClassId × ClassId} {ad : Nat → Nat} {A : Nat → Prop} {μ ν : mm} {y : MethodName} {ret ret0 : Option FieldType} {lv : List (Nat × Value)}
theorem z_i2b (C0 : zC p s m args c cc own Ts nL D cy) {x : Int} (hd : decode cc pc = .ok (.i2b, 1)) (k : W p l e R s m args below meth c H locs cells slots Q (F0 m (pc + 1) ls (.int (iO ((x + 128) % 256 - 128)) :: rest))) : W p l e R s m args below meth c H locs cells slots Q (F0 m pc ls (.int (iO x) :: rest)) := lv_i2b C0.1 C0.2.1 hd iO_byte k
theorem z_getsC (X : zX p s m args meth c cc own Ts nL D cy ad ret0 A) (hW : zW D cy ad A s.heap μ H locs) (hl : Cond.fieldLink own index "java/lang/String" "COMPACT_STRINGS" "Z" ∈ Ts) (hd : decode cc pc = .ok (.getstatic index, 3)) (k : W p l e R s m args below meth c H locs cells slots Q (F0 m (pc + 3) ls (.int (iO 1) :: rest))) : W p l e R s m args below meth c H locs cells slots Q (F0 m pc ls rest) :=
  va_gets X.1.1 X.1.2.1 X.2.2.2.2.2.2.1 hW.2.2 X.1.2.2.2.1 (X.1.2.2.2.2.1 _ hl) (fun _ h => h) hd k
theorem z_getsQ (X : zX p s m args meth c cc own Ts nL D cy ad ret0 A) (hW : zW D cy ad A s.heap μ H locs) (hl : Cond.fieldLink own index "jdk/internal/util/Preconditions" "SIOOBE_FORMATTER" "Ljava/util/function/BiFunction;" ∈ Ts) (hd : decode cc pc = .ok (.getstatic index, 3)) (k0 : W p l e R s m args below meth c H locs cells slots Q (F0 m (pc + 3) ls (.null :: rest))) (k1 : ∀ t : Nat, W p l e R s m args below meth c H locs cells slots Q (F0 m (pc + 3) ls (.ref t :: rest))) : W p l e R s m args below meth c H locs cells slots Q (F0 m pc ls rest) := by
  rcases X.2.2.2.2.2.2.2 with h | ⟨t, h⟩
  · exact va_gets X.1.1 X.1.2.1 h hW.2.2 X.1.2.2.2.1 (X.1.2.2.2.2.1 _ hl) (fun _ h => h) hd k0
  · exact va_gets X.1.1 X.1.2.1 h hW.2.2 X.1.2.2.2.1 (X.1.2.2.2.2.1 _ hl) (fun _ h => h) hd (k1 t)
theorem z_so (ho : 60 ≤ o ∧ o < 66) : ∃ i, i < 6 ∧ o = 60 + i := ⟨o - 60, by omega, by omega⟩
theorem z_sb (hb : 80 ≤ b ∧ b < 86) : ∃ i, i < 6 ∧ b = 80 + i := ⟨b - 80, by omega, by omega⟩
theorem z_sgetV (X : zX p s m args meth c cc own Ts nL D cy ad ret0 A) (hW : zW D cy ad A s.heap μ H locs) (ho : 60 ≤ o ∧ o < 66) (hl : Cond.fieldLink own index "java/lang/String" "value" "[B" ∈ Ts) (hd : decode cc pc = .ok (.getfield index, 3)) (k : W p l e R s m args below meth c H locs cells slots Q (F0 m (pc + 3) ls (.ref (ad (o + 20)) :: rest))) : W p l e R s m args below meth c H locs cells slots Q (F0 m pc ls (.ref (ad o) :: rest)) := by
  obtain ⟨i, hi, rfl⟩ := z_so ho
  rw [show 60 + i + 20 = 80 + i by omega] at k
  exact vk_getf X.1.1 X.1.2.1 (X.2.2.2.2.1.1 i hi).2.2.1 hW.2.2 X.1.2.2.2.1 (X.1.2.2.2.2.1 _ hl) (fun _ h => h) hd k
theorem z_sgetC (X : zX p s m args meth c cc own Ts nL D cy ad ret0 A) (hW : zW D cy ad A s.heap μ H locs) (ho : 60 ≤ o ∧ o < 66) (hl : Cond.fieldLink own index "java/lang/String" "coder" "B" ∈ Ts) (hd : decode cc pc = .ok (.getfield index, 3)) (k : W p l e R s m args below meth c H locs cells slots Q (F0 m (pc + 3) ls (.int (iO 0) :: rest))) : W p l e R s m args below meth c H locs cells slots Q (F0 m pc ls (.ref (ad o) :: rest)) := by
  obtain ⟨i, hi, rfl⟩ := z_so ho
  exact vk_getf X.1.1 X.1.2.1 (X.2.2.2.2.1.1 i hi).2.1 hW.2.2 X.1.2.2.2.1 (X.1.2.2.2.2.1 _ hl) (fun _ h => h) hd k
theorem z_blen (X : zX p s m args meth c cc own Ts nL D cy ad ret0 A) (hW : zW D cy ad A s.heap μ H locs) (hb : 80 ≤ b ∧ b < 86) (hd : decode cc pc = .ok (.arraylength, 1)) (k : W p l e R s m args below meth c H locs cells slots Q (F0 m (pc + 1) ls (.int (iO (blen b)) :: rest))) : W p l e R s m args below meth c H locs cells slots Q (F0 m pc ls (.ref (ad b) :: rest)) := by
  obtain ⟨i, hi, rfl⟩ := z_sb hb
  have hv := blen_nat (80 + i)
  rw [show 80 + i - 80 = i by omega] at hv
  exact va_tlen X.1.1 X.1.2.1 (X.2.2.2.2.1.1 i hi).2.2.2 hW.2.2 hv hd k
theorem z_bald (X : zX p s m args meth c cc own Ts nL D cy ad ret0 A) (hW : zW D cy ad A s.heap μ H locs) (hb : 80 ≤ b ∧ b < 86) {x : Int} (g : 0 ≤ x ∧ x < blen b) (hd : decode cc pc = .ok (.baload, 1)) (k : W p l e R s m args below meth c H locs cells slots Q (F0 m (pc + 1) ls (.int (iO (bch b x.toNat)) :: rest))) : W p l e R s m args below meth c H locs cells slots Q (F0 m pc ls (.int (iO x) :: .ref (ad b) :: rest)) := by
  obtain ⟨i, hi, rfl⟩ := z_sb hb
  have hn := blen_lt i hi
  have g2 : x < ((lenS.getD i 0 : Nat) : Int) := by
    have := g.2
    rw [blen, show 80 + i - 80 = i by omega] at this
    exact this
  have hv := bch_ok (80 + i) x.toNat
  rw [show 80 + i - 80 = i by omega] at hv
  refine va_tb X.1.1 X.1.2.1 (X.2.2.2.2.1.1 i hi).2.2.2 hW.2.2 (iO_in g.1 g2 hn) (v := .int (iO (bch (80 + i) x.toNat))) ?_ hd k
  show Value.int ((bytS.getD i []).getD (iO x).toNatClampNeg 0) = _
  rw [iO_clamp ⟨by omega, by omega⟩, hv]
theorem z_ldcS50 (X : zX p s m args meth c cc "GritIsIssued$Text" Ts nL D cy ad ret0 A) (hd : decode cc pc = .ok (.ldc 50, 2)) (q : W p l e R s m args below meth c H locs cells slots Q (F0 m (pc + 2) ls (.ref (ad 60) :: rest))) : W p l e R s m args below meth c H locs cells slots Q (F0 m pc ls rest) := va_ldcS X.1.1 X.1.2.1 X.1.2.2.2.1 X.2.2.2.2.2.1.1 hd q
theorem z_ldcS52 (X : zX p s m args meth c cc "GritIsIssued$Text" Ts nL D cy ad ret0 A) (hd : decode cc pc = .ok (.ldc 52, 2)) (q : W p l e R s m args below meth c H locs cells slots Q (F0 m (pc + 2) ls (.ref (ad 61) :: rest))) : W p l e R s m args below meth c H locs cells slots Q (F0 m pc ls rest) := va_ldcS X.1.1 X.1.2.1 X.1.2.2.2.1 X.2.2.2.2.2.1.2.1 hd q
theorem z_ldcS54 (X : zX p s m args meth c cc "GritIsIssued$Text" Ts nL D cy ad ret0 A) (hd : decode cc pc = .ok (.ldc 54, 2)) (q : W p l e R s m args below meth c H locs cells slots Q (F0 m (pc + 2) ls (.ref (ad 62) :: rest))) : W p l e R s m args below meth c H locs cells slots Q (F0 m pc ls rest) := va_ldcS X.1.1 X.1.2.1 X.1.2.2.2.1 X.2.2.2.2.2.1.2.2.1 hd q
theorem z_ldcS56 (X : zX p s m args meth c cc "GritIsIssued$Text" Ts nL D cy ad ret0 A) (hd : decode cc pc = .ok (.ldc 56, 2)) (q : W p l e R s m args below meth c H locs cells slots Q (F0 m (pc + 2) ls (.ref (ad 63) :: rest))) : W p l e R s m args below meth c H locs cells slots Q (F0 m pc ls rest) := va_ldcS X.1.1 X.1.2.1 X.1.2.2.2.1 X.2.2.2.2.2.1.2.2.2.1 hd q
theorem z_ldcS58 (X : zX p s m args meth c cc "GritIsIssued$Text" Ts nL D cy ad ret0 A) (hd : decode cc pc = .ok (.ldc 58, 2)) (q : W p l e R s m args below meth c H locs cells slots Q (F0 m (pc + 2) ls (.ref (ad 64) :: rest))) : W p l e R s m args below meth c H locs cells slots Q (F0 m pc ls rest) := va_ldcS X.1.1 X.1.2.1 X.1.2.2.2.1 X.2.2.2.2.2.1.2.2.2.2.1 hd q
theorem z_ldcS23 (X : zX p s m args meth c cc "GritIsIssued$Text" Ts nL D cy ad ret0 A) (hd : decode cc pc = .ok (.ldc 23, 2)) (q : W p l e R s m args below meth c H locs cells slots Q (F0 m (pc + 2) ls (.ref (ad 65) :: rest))) : W p l e R s m args below meth c H locs cells slots Q (F0 m pc ls rest) := va_ldcS X.1.1 X.1.2.1 X.1.2.2.2.1 X.2.2.2.2.2.1.2.2.2.2.2.1 hd q
theorem z_ldcS212 (X : zX p s m args meth c cc "GritIsIssued" Ts nL D cy ad ret0 A) (hd : decode cc pc = .ok (.ldc 212, 2)) (q : W p l e R s m args below meth c H locs cells slots Q (F0 m (pc + 2) ls (.ref (ad 65) :: rest))) : W p l e R s m args below meth c H locs cells slots Q (F0 m pc ls rest) := va_ldcS X.1.1 X.1.2.1 X.1.2.2.2.1 X.2.2.2.2.2.1.2.2.2.2.2.2 hd q
theorem z_callVSI (X : zX p s m args meth c cc own Ts nL D cy ad ret0 A) (hW : zW D cy ad A s.heap μ H locs) (hl : lv_has ls nL lv) (ho : 60 ≤ o ∧ o < 66) {r : Int} (hM : zI l y wy d' D cy ad (.ref (ad o) :: As) μ r ν) (g : GoodIn Ts (wsV own index RJ0 y wy)) (hw : wy = Cond.code y bytes maxL ret :: wy') (hy : y.cls = RJ0 ∧ y.cls ≠ "java/lang/invoke/MethodHandle" ∧ y.cls ≠ "java/lang/invoke/VarHandle" ∧ (parseMethodDescriptor y.desc).map (fun q => q.parameters.length) = some n) (hn : As.length = n) (hR : d' + 1 ≤ d ∧ maxL ≤ 20) (hst : st = As.reverse ++ .ref (ad o) :: rest) (hrest : (rest.map fun v => v.category).sum ≤ 8) (hd : decode cc pc = .ok (.invokevirtual index, 3))
    (kk : ∀ (H : Heap) (locs : List Loc), zW D cy ad A s.heap ν H locs → W p l e (rmD d) s m args below meth c H locs 0 0 Q (F0 m (pc + 3) ls (.int (iO r) :: rest))) : W p l e (rmD d) s m args below meth c H locs 0 0 Q (F0 m pc ls st) := by
  obtain ⟨i, hi, rfl⟩ := z_so ho
  obtain ⟨cell, hc1, hc2, hc3⟩ := vk_recv X.2.2.2.2.1 hi hW.2.2
  refine va_calli (mc := 0) (ms := 0) (va_runV (As := As) (rest := rest) (bytes := bytes) (maxL := maxL) (ret := ret) ⟨X.1.1, X.1.2.1, X.1.2.2.1, X.1.2.2.2.1, X.1.2.2.2.2.1⟩ (hM H.size) (cwV n X.1.2.2.2.2.1 g hw rfl rfl hy ⟨hR.1, by show 8 + (maxL + 11) + 39 * d' ≤ 39 * d; omega⟩) ⟨zPre_blind, ⟨cell, hc1, hc2, hc3⟩, fun U hU hA => ⟨rfl, by rw [hU], by rw [hU]; exact hW.1, va_K.moved hA.alike X.1.2.2.2.2.2, hW.2.1.weaken (fun _ _ _ _ => trivial), by rw [hU]; exact X.2.2.2.2.call hA (fun a h1 h2 => hW.2.2.2.1 a h1 h2) (zA_sub hW.2.1 hW.2.2 X.2.2.2.1)⟩⟩ rfl hn hl.1 hst (lv_room hrest) hd ⟨Nat.zero_le _, Nat.zero_le _⟩) hW.2.2 (fun q _ h => zA_sub hW.2.1 hW.2.2 X.2.2.2.1 q h) (fun q h => zA_sub hW.2.1 hW.2.2 X.2.2.2.1 q h) (fun r0 u t H1 locs1 ht hvm hw hB hz1 hk1 hS => by
    obtain ⟨rfl, rfl⟩ := hw; obtain ⟨hP1, -, hD1⟩ := hB
    rw [ht] at hP1
    exact kk H1 locs1 ⟨hP1, cel_adr hW.2.1, hS⟩)
theorem z_cret (X : zX p s m args meth c cc own Ts nL D cy ad (some .char) A) (hW : zW D cy ad A s.heap μ H locs) {x r : Int} (hx : 0 ≤ x ∧ x < 65536) (er : x = r) (em : μ = ν) (hd : decode cc pc = .ok (.ireturn, 1)) : W p l e R s m args below meth c H locs 0 0 (MQ below (zQi D cy ad A r ν) args s 0 0 A) (F0 m pc ls [.int (iO x)]) := by
  subst er; subst em
  have hlk := X.2.2.1
  have hn : narrow .char (.int (iO x)) = .int (iO x) := by
    obtain ⟨a, rfl⟩ := Int.eq_ofNat_of_zero_le hx.1
    rw [iO_nat]
    exact (pk_charN (by omega)).1
  exact W.zret (v := iO x) X.1.1 X.1.2.1 X.2.1 hn (fun t ht hA => ⟨⟨iO x, μ, rfl, ⟨rfl, rfl⟩, zAt.of hW X.1.2.2.2.2.2 ht hA⟩, hW.2.2.F ht⟩) hW.2.2.2.2 hd
theorem z_bret (X : zX p s m args meth c cc own Ts nL D cy ad (some .byte) A) (hW : zW D cy ad A s.heap μ H locs) {x r : Int} (hx : x = 0 ∨ x = 1) (er : x = r) (em : μ = ν) (hd : decode cc pc = .ok (.ireturn, 1)) : W p l e R s m args below meth c H locs 0 0 (MQ below (zQi D cy ad A r ν) args s 0 0 A) (F0 m pc ls [.int (iO x)]) := by
  subst er; subst em
  have hlk := X.2.2.1
  exact W.zret (v := iO x) X.1.1 X.1.2.1 X.2.1 (by rcases hx with rfl | rfl <;> decide) (fun t ht hA => ⟨⟨iO x, μ, rfl, ⟨rfl, rfl⟩, zAt.of hW X.1.2.2.2.2.2 ht hA⟩, hW.2.2.F ht⟩) hW.2.2.2.2 hd
end ZS
