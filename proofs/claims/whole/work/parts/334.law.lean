/-! THE CLAIM OUT OF ONE WALK OF THE LAW'S BODY. Your part is whole_start (and what it stands on); all else here is the same for every law, but numbers. -/
def R_law : String := "GritIsIssuedLaw"
def lw_P (b : Addr) (xs : List Int32) (args : Array Value) (s : State) : Prop := args = #[.ref b] ∧ s.IntsAt b xs ∧ xs.length ≤ 3072 ∧ (Jvm.Cond.and given_1 narrow_1).before args s = true
def lw_Q (_ : Array Value) (s : State) (o : Outcome) (t : State) : Prop := o = .returned (some (.int 1)) ∧ Framed s o t [] 600000 7302250
def lw_Z (below : List Frame) (a : Array Value) (s : State) : State → Prop := fun t => ∃ o, t.status = .running ∧ Ended t below o ∧ lw_Q a s o t
/-- the law's own end, with 1 on the stack, nothing written that was there before, its room as the claim has it -/
theorem lw_ret {p : Program} {l : Launch} {e : Env} {s : State} {m : MethodId} {below : List Frame} {meth : Method} {c : Code} {b : Nat} (hx : p.tables.exec = Jvm.exec) (hb : c.code = code) (hr : meth.sig.returnType = ret) (hlocks : meth.locks = false) {pc : Nat} {H : Heap} {ls : Array Slot} (hdg : decode code pc = .ok (.ireturn, 1)) : W p l e room_1 s m #[Value.ref b] below meth c H [] 600000 7302250 (lw_Z below #[Value.ref b] s) (F0 m pc ls [.int 1]) := by
  intro T hT X
  obtain ⟨fs, hret, hrun, hended, hW, hframe⟩ := X.leave (v := some (.int 1)) (hlocks := hlocks) (fun h => by rw [hr] at h; cases h)
  have hmeth' : T.vm.method? m = some meth := X.method'
  refine ⟨T.setFrames fs, ?_, .returned (some (.int 1)), hrun, hended, rfl, ⟨_, rfl⟩, hW, hframe⟩
  jvm_step X.here [X.here.top, hx, hb, hdg, hmeth', hr, ret, narrow_b1]
  (try refine ⟨rfl, ?_⟩); (try refine ⟨rfl, ?_⟩)
  first | (intro acts; rw [hret _ acts rfl rfl rfl]) | rw [hret _ _ rfl rfl rfl]
  exact Steps.refl _
/-- what holds at the law's entry: the machine, the code, the tables' words (any of lw_tbl by 'hts w (by decide +kernel)'), the script of L ints xs at the cell b, what the Statement gives of the start (any of its parts by flat_of_before) -/
def lw_At (p : Program) (s : State) (m : MethodId) (meth : Method) (c : Code) (b L : Nat) (xs : Nat → Int32) : Prop :=
  p.tables.exec = Jvm.exec ∧ c.code = code ∧ meth.sig.returnType = ret ∧ c.maxLocals = 4 ∧ s.vm.findClass R_law = some m.cls ∧ (∀ w ∈ lw_tbl, w.before #[Value.ref b] s = true) ∧ va_X b L xs s s.heap ∧ b < s.heap.size ∧ meth.locks = false ∧ (Jvm.Cond.and given_1 narrow_1).before #[Value.ref b] s = true
theorem in_of (x : Int32) : inR x.toInt := by
  have a := Int32.toInt_lt x
  have b := Int32.le_toInt x
  constructor <;> omega
section LWCALL
variable {p : Program} {l : Launch} {e : Env} {s : State} {m : MethodId} {args : Array Value} {below : List Frame} {meth : Method} {c : Code} {H : Heap} {locs : List Loc} {Q : State → Prop}
variable {cc bytes : ByteArray} {own : String} {Ts wy wy' : List Cond} {nL pc maxL n index d' CE SL : Nat} {ls : Array Slot} {rest st As : List Value} {D : va_G} {cy : ClassId × ClassId} {ad : Nat → Nat} {A : Nat → Prop} {μ ν : mm} {y : MethodName} {ret0 : Option FieldType} {ret1 : Option FieldType} {lv : List (Nat × Value)}
theorem lw_call7I (X : zX p s m args meth c cc own Ts nL D cy ad ret0 A) (hW : zW D cy ad A s.heap μ H locs) (hl : lv_has ls nL lv) {i : Nat} (hk : kd i = 7) {r : Int} (hM : zI l y wy d' D cy ad (.ref (ad i) :: As) μ r ν) (g : GoodIn Ts (wsV own index RX4 y wy)) (hw : wy = Cond.code y bytes maxL ret1 :: wy') (hy : y.cls = RX4 ∧ y.cls ≠ "java/lang/invoke/MethodHandle" ∧ y.cls ≠ "java/lang/invoke/VarHandle" ∧ (parseMethodDescriptor y.desc).map (fun q => q.parameters.length) = some n) (hn : As.length = n) (hR : d' + 1 ≤ room_1.frames ∧ 8 + (maxL + 11) + 39 * d' ≤ room_1.locals) (hce : CE ≤ room_1.cells ∧ SL ≤ room_1.slots) (hst : st = As.reverse ++ .ref (ad i) :: rest) (hrest : (rest.map fun v => v.category).sum ≤ 8) (hd : decode cc pc = .ok (.invokevirtual index, 3))
    (kk : ∀ (H : Heap) (locs : List Loc), zW D cy ad A s.heap ν H locs → W p l e room_1 s m args below meth c H locs CE SL Q (F0 m (pc + 3) ls (.int (iO r) :: rest))) : W p l e room_1 s m args below meth c H locs CE SL Q (F0 m pc ls st) := by
  have hlt : i < NC := kd_lt (by rw [hk]; decide)
  have e0 : (cel cy ad μ)[i]? = some (ad i, .inr (3, [.ref (ad 10), .ref (ad 21), .ref (ad 32), .ref (ad 43), .ref (ad 44), .ref (ad 46), .ref (ad 47), .ref (ad 48), .ref (ad 49), .int (iO (μ i 9)), .int (iO (μ i 10))])) := (cel_at hlt).trans (by rw [gG_7 hk])
  refine va_calli (mc := 0) (ms := 0) (va_runV (As := As) (rest := rest) (bytes := bytes) (maxL := maxL) (ret := ret1) ⟨X.1.1, X.1.2.1, X.1.2.2.1, X.1.2.2.2.1, X.1.2.2.2.2.1⟩ (hM H.size) (cwV n X.1.2.2.2.2.1 g hw rfl rfl hy hR) ⟨zPre_blind, va_recv X.1.2.2.2.2.2 hW.1 (ci := 3) (q0 := i) (q := (RX4, TX4, 11)) rfl e0, fun U hU hA => ⟨rfl, by rw [hU], by rw [hU]; exact hW.1, va_K.moved hA.alike X.1.2.2.2.2.2, hW.2.1.weaken (fun _ _ _ _ => trivial), by rw [hU]; exact X.2.2.2.2.call hA (fun a h1 h2 => hW.2.2.2.1 a h1 h2) (zA_sub hW.2.1 hW.2.2 X.2.2.2.1)⟩⟩ rfl hn hl.1 hst (lv_room hrest) hd hce) hW.2.2 (fun q _ h => zA_sub hW.2.1 hW.2.2 X.2.2.2.1 q h) (fun q h => zA_sub hW.2.1 hW.2.2 X.2.2.2.1 q h) (fun r0 u t H1 locs1 ht hvm hw hB hz1 hk1 hS => by
    obtain ⟨rfl, rfl⟩ := hw; obtain ⟨hP1, -, hD1⟩ := hB
    rw [ht] at hP1
    exact kk H1 locs1 ⟨hP1, cel_adr hW.2.1, hS⟩)
theorem lw_call7J (X : zX p s m args meth c cc own Ts nL D cy ad ret0 A) (hW : zW D cy ad A s.heap μ H locs) (hl : lv_has ls nL lv) {i : Nat} (hk : kd i = 7) {r : Int} (hM : zJ l y wy d' D cy ad (.ref (ad i) :: As) μ r ν) (g : GoodIn Ts (wsV own index RX4 y wy)) (hw : wy = Cond.code y bytes maxL ret1 :: wy') (hy : y.cls = RX4 ∧ y.cls ≠ "java/lang/invoke/MethodHandle" ∧ y.cls ≠ "java/lang/invoke/VarHandle" ∧ (parseMethodDescriptor y.desc).map (fun q => q.parameters.length) = some n) (hn : As.length = n) (hR : d' + 1 ≤ room_1.frames ∧ 8 + (maxL + 11) + 39 * d' ≤ room_1.locals) (hce : CE ≤ room_1.cells ∧ SL ≤ room_1.slots) (hst : st = As.reverse ++ .ref (ad i) :: rest) (hrest : (rest.map fun v => v.category).sum ≤ 8) (hd : decode cc pc = .ok (.invokevirtual index, 3))
    (kk : ∀ (H : Heap) (locs : List Loc), zW D cy ad A s.heap ν H locs → W p l e room_1 s m args below meth c H locs CE SL Q (F0 m (pc + 3) ls (.long (lO r) :: rest))) : W p l e room_1 s m args below meth c H locs CE SL Q (F0 m pc ls st) := by
  have hlt : i < NC := kd_lt (by rw [hk]; decide)
  have e0 : (cel cy ad μ)[i]? = some (ad i, .inr (3, [.ref (ad 10), .ref (ad 21), .ref (ad 32), .ref (ad 43), .ref (ad 44), .ref (ad 46), .ref (ad 47), .ref (ad 48), .ref (ad 49), .int (iO (μ i 9)), .int (iO (μ i 10))])) := (cel_at hlt).trans (by rw [gG_7 hk])
  refine va_calll (mc := 0) (ms := 0) (va_runV (As := As) (rest := rest) (bytes := bytes) (maxL := maxL) (ret := ret1) ⟨X.1.1, X.1.2.1, X.1.2.2.1, X.1.2.2.2.1, X.1.2.2.2.2.1⟩ (hM H.size) (cwV n X.1.2.2.2.2.1 g hw rfl rfl hy hR) ⟨zPre_blind, va_recv X.1.2.2.2.2.2 hW.1 (ci := 3) (q0 := i) (q := (RX4, TX4, 11)) rfl e0, fun U hU hA => ⟨rfl, by rw [hU], by rw [hU]; exact hW.1, va_K.moved hA.alike X.1.2.2.2.2.2, hW.2.1.weaken (fun _ _ _ _ => trivial), by rw [hU]; exact X.2.2.2.2.call hA (fun a h1 h2 => hW.2.2.2.1 a h1 h2) (zA_sub hW.2.1 hW.2.2 X.2.2.2.1)⟩⟩ rfl hn hl.1 hst (lv_room hrest) hd hce) hW.2.2 (fun q _ h => zA_sub hW.2.1 hW.2.2 X.2.2.2.1 q h) (fun q h => zA_sub hW.2.1 hW.2.2 X.2.2.2.1 q h) (fun r0 u t H1 locs1 ht hvm hw hB hz1 hk1 hS => by
    obtain ⟨rfl, rfl⟩ := hw; obtain ⟨hP1, -, hD1⟩ := hB
    rw [ht] at hP1
    exact kk H1 locs1 ⟨hP1, cel_adr hW.2.1, hS⟩)
theorem lw_call1I (X : zX p s m args meth c cc own Ts nL D cy ad ret0 A) (hW : zW D cy ad A s.heap μ H locs) (hl : lv_has ls nL lv) {i : Nat} (hk : kd i = 1) {r : Int} (hM : zI l y wy d' D cy ad (.ref (ad i) :: As) μ r ν) (g : GoodIn Ts (wsV own index RX5 y wy)) (hw : wy = Cond.code y bytes maxL ret1 :: wy') (hy : y.cls = RX5 ∧ y.cls ≠ "java/lang/invoke/MethodHandle" ∧ y.cls ≠ "java/lang/invoke/VarHandle" ∧ (parseMethodDescriptor y.desc).map (fun q => q.parameters.length) = some n) (hn : As.length = n) (hR : d' + 1 ≤ room_1.frames ∧ 8 + (maxL + 11) + 39 * d' ≤ room_1.locals) (hce : CE ≤ room_1.cells ∧ SL ≤ room_1.slots) (hst : st = As.reverse ++ .ref (ad i) :: rest) (hrest : (rest.map fun v => v.category).sum ≤ 8) (hd : decode cc pc = .ok (.invokevirtual index, 3))
    (kk : ∀ (H : Heap) (locs : List Loc), zW D cy ad A s.heap ν H locs → W p l e room_1 s m args below meth c H locs CE SL Q (F0 m (pc + 3) ls (.int (iO r) :: rest))) : W p l e room_1 s m args below meth c H locs CE SL Q (F0 m pc ls st) := by
  have hlt : i < NC := kd_lt (by rw [hk]; decide)
  have e0 : (cel cy ad μ)[i]? = some (ad i, .inr (4, [.ref (ad 1), .ref (ad 2), .ref (ad 3), .ref (ad 4), .int (iO (μ i 4)), .ref (ad 5), .ref (ad 6), .ref (ad 7), .int (iO (μ i 8)), .int (iO (μ i 9)), .int (iO (μ i 10)), .ref (ad 8), .int (iO (μ i 12))])) := (cel_at hlt).trans (by rw [gG_1 hk])
  refine va_calli (mc := 0) (ms := 0) (va_runV (As := As) (rest := rest) (bytes := bytes) (maxL := maxL) (ret := ret1) ⟨X.1.1, X.1.2.1, X.1.2.2.1, X.1.2.2.2.1, X.1.2.2.2.2.1⟩ (hM H.size) (cwV n X.1.2.2.2.2.1 g hw rfl rfl hy hR) ⟨zPre_blind, va_recv X.1.2.2.2.2.2 hW.1 (ci := 4) (q0 := i) (q := (RX5, TX5, 13)) rfl e0, fun U hU hA => ⟨rfl, by rw [hU], by rw [hU]; exact hW.1, va_K.moved hA.alike X.1.2.2.2.2.2, hW.2.1.weaken (fun _ _ _ _ => trivial), by rw [hU]; exact X.2.2.2.2.call hA (fun a h1 h2 => hW.2.2.2.1 a h1 h2) (zA_sub hW.2.1 hW.2.2 X.2.2.2.1)⟩⟩ rfl hn hl.1 hst (lv_room hrest) hd hce) hW.2.2 (fun q _ h => zA_sub hW.2.1 hW.2.2 X.2.2.2.1 q h) (fun q h => zA_sub hW.2.1 hW.2.2 X.2.2.2.1 q h) (fun r0 u t H1 locs1 ht hvm hw hB hz1 hk1 hS => by
    obtain ⟨rfl, rfl⟩ := hw; obtain ⟨hP1, -, hD1⟩ := hB
    rw [ht] at hP1
    exact kk H1 locs1 ⟨hP1, cel_adr hW.2.1, hS⟩)
theorem lw_call1J (X : zX p s m args meth c cc own Ts nL D cy ad ret0 A) (hW : zW D cy ad A s.heap μ H locs) (hl : lv_has ls nL lv) {i : Nat} (hk : kd i = 1) {r : Int} (hM : zJ l y wy d' D cy ad (.ref (ad i) :: As) μ r ν) (g : GoodIn Ts (wsV own index RX5 y wy)) (hw : wy = Cond.code y bytes maxL ret1 :: wy') (hy : y.cls = RX5 ∧ y.cls ≠ "java/lang/invoke/MethodHandle" ∧ y.cls ≠ "java/lang/invoke/VarHandle" ∧ (parseMethodDescriptor y.desc).map (fun q => q.parameters.length) = some n) (hn : As.length = n) (hR : d' + 1 ≤ room_1.frames ∧ 8 + (maxL + 11) + 39 * d' ≤ room_1.locals) (hce : CE ≤ room_1.cells ∧ SL ≤ room_1.slots) (hst : st = As.reverse ++ .ref (ad i) :: rest) (hrest : (rest.map fun v => v.category).sum ≤ 8) (hd : decode cc pc = .ok (.invokevirtual index, 3))
    (kk : ∀ (H : Heap) (locs : List Loc), zW D cy ad A s.heap ν H locs → W p l e room_1 s m args below meth c H locs CE SL Q (F0 m (pc + 3) ls (.long (lO r) :: rest))) : W p l e room_1 s m args below meth c H locs CE SL Q (F0 m pc ls st) := by
  have hlt : i < NC := kd_lt (by rw [hk]; decide)
  have e0 : (cel cy ad μ)[i]? = some (ad i, .inr (4, [.ref (ad 1), .ref (ad 2), .ref (ad 3), .ref (ad 4), .int (iO (μ i 4)), .ref (ad 5), .ref (ad 6), .ref (ad 7), .int (iO (μ i 8)), .int (iO (μ i 9)), .int (iO (μ i 10)), .ref (ad 8), .int (iO (μ i 12))])) := (cel_at hlt).trans (by rw [gG_1 hk])
  refine va_calll (mc := 0) (ms := 0) (va_runV (As := As) (rest := rest) (bytes := bytes) (maxL := maxL) (ret := ret1) ⟨X.1.1, X.1.2.1, X.1.2.2.1, X.1.2.2.2.1, X.1.2.2.2.2.1⟩ (hM H.size) (cwV n X.1.2.2.2.2.1 g hw rfl rfl hy hR) ⟨zPre_blind, va_recv X.1.2.2.2.2.2 hW.1 (ci := 4) (q0 := i) (q := (RX5, TX5, 13)) rfl e0, fun U hU hA => ⟨rfl, by rw [hU], by rw [hU]; exact hW.1, va_K.moved hA.alike X.1.2.2.2.2.2, hW.2.1.weaken (fun _ _ _ _ => trivial), by rw [hU]; exact X.2.2.2.2.call hA (fun a h1 h2 => hW.2.2.2.1 a h1 h2) (zA_sub hW.2.1 hW.2.2 X.2.2.2.1)⟩⟩ rfl hn hl.1 hst (lv_room hrest) hd hce) hW.2.2 (fun q _ h => zA_sub hW.2.1 hW.2.2 X.2.2.2.1 q h) (fun q h => zA_sub hW.2.1 hW.2.2 X.2.2.2.1 q h) (fun r0 u t H1 locs1 ht hvm hw hB hz1 hk1 hS => by
    obtain ⟨rfl, rfl⟩ := hw; obtain ⟨hP1, -, hD1⟩ := hB
    rw [ht] at hP1
    exact kk H1 locs1 ⟨hP1, cel_adr hW.2.1, hS⟩)
end LWCALL
section LWOPS
variable {p : Program} {l : Launch} {e : Env} {s : State} {m : MethodId} {below : List Frame} {meth : Method} {c : Code} {H : Heap} {locs : List Loc} {Q : State → Prop}
variable {ls : Array Slot} {rest : List Value} {D : va_G} {cy : ClassId × ClassId} {ad : Nat → Nat} {μ : mm} {b L i : Nat} {xs : Nat → Int32} {CE SL pc : Nat} {w1 w2 : Value} {lv : List (Nat × Value)}
abbrev lwA (s : State) : Nat → Prop := fun q : Nat => s.heap.size ≤ q
/-- the script's int k places behind the loop's counter, on the stack -/
theorem lw_arg (hx : p.tables.exec = Jvm.exec) (hb : c.code = cL_law) (hX : va_X b L xs s s.heap) (hbl : b < s.heap.size) (hS : va_S (lwA s) s.heap H locs) (hl : lv_has ls 4 [(0, .ref b), (1, w1), (2, w2), (3, .int (nI i))]) (k : Nat) (hk : i + k < L) (hL : L ≤ 3072) {kz : Int} (d0 : decode cL_law pc = .ok (.aload_n 0, 1)) (d1 : decode cL_law (pc + 1) = .ok (.iload_n 3, 1)) (d2 : decode cL_law (pc + 2) = .ok (.iconst kz, 1)) (hkz : Int32.ofInt kz = nI k) (d3 : decode cL_law (pc + 3) = .ok (.iadd, 1)) (d4 : decode cL_law (pc + 4) = .ok (.iaload, 1))
    (kk : W p l e room_1 s m #[.ref b] below meth c H locs CE SL Q (F0 m (pc + 5) ls (.int (iO (xs (i + k)).toInt) :: rest))) : W p l e room_1 s m #[.ref b] below meth c H locs CE SL Q (F0 m pc ls rest) := by
  refine lv_aload_n hx hb d0 rfl (lv_at hl 0 rfl) ?_
  refine lv_iload_n hx hb d1 rfl (lv_at hl 3 rfl) ?_
  refine lv_iconst hx hb d2 hkz ?_
  refine lv_iadd hx hb d3 ?_
  refine va_sld hx hb hX hbl (Nat.not_le.mpr hbl) hS (by rw [nI_add]; exact vp_in_nI hk (by omega)) d4 ?_
  refine lv_topi (fun y ey => ?_)
  have ey : y = iO (xs (i + k)).toInt := by rw [ey, nI_add, nI_clamp (by omega), iO_of]
  subst ey
  exact kk
/-- letter: from its place in the table to the loop's step -/
theorem lw_letter (X : zX p s m #[.ref b] meth c cL_law RL lw_tbl 4 D cy ad ret (lwA s)) (hX : va_X b L xs s s.heap) (hbl : b < s.heap.size) (R : Rel μ) (hW : zW D cy ad (lwA s) s.heap μ H locs) (hl : lv_has ls 4 [(0, .ref b), (1, .ref (ad 9)), (2, .ref (ad 0)), (3, .int (nI i))]) (hi : i + 6 ≤ L) (hL : L ≤ 3072) (hce : CE ≤ room_1.cells ∧ SL ≤ room_1.slots)
    (kk : ∀ (μ2 : mm) (H : Heap) (locs : List Loc), Rel μ2 → zW D cy ad (lwA s) s.heap μ2 H locs → W p l e room_1 s m #[.ref b] below meth c H locs CE SL Q (F0 m 1206 ls [])) : W p l e room_1 s m #[.ref b] below meth c H locs CE SL Q (F0 m 200 ls []) := by
  obtain ⟨r, μ1, μ2, f1, f2, R2⟩ := op_letter 2000 R (c := (xs (i + 1)).toInt) (in_of _)
  refine lv_aload_n X.1.1 X.1.2.1 dL_law_200 rfl (lv_at hl 1 rfl) ?_
  refine lw_arg X.1.1 X.1.2.1 hX hbl hW.2.2 hl 1 (by omega) hL dL_law_201 dL_law_202 dL_law_203 rfl dL_law_204 dL_law_205 ?_
  refine lw_call7I (pc := 206) (n := 1) (As := [.int (iO (xs (i + 1)).toInt)]) (rest := []) X hW hl (i := 9) rfl (C4_letter l 2000 (xs (i + 1)).toInt μ f1) gL_law_X4_letter rfl (by decide +kernel) rfl ⟨by decide, by decide⟩ hce rfl (Nat.le_of_ble_eq_true rfl) dL_law_206 (fun H locs hW => ?_)
  refine lv_aload_n X.1.1 X.1.2.1 dL_law_209 rfl (lv_at hl 2 rfl) ?_
  refine lw_arg X.1.1 X.1.2.1 hX hbl hW.2.2 hl 1 (by omega) hL dL_law_210 dL_law_211 dL_law_212 rfl dL_law_213 dL_law_214 ?_
  refine lw_call1I (pc := 215) (n := 1) (As := [.int (iO (xs (i + 1)).toInt)]) (rest := [.int (iO r)]) X hW hl (i := 0) rfl (C5_letter l 2000 (xs (i + 1)).toInt μ1 f2) gL_law_X5_letter rfl (by decide +kernel) rfl ⟨by decide, by decide⟩ hce rfl (Nat.le_of_ble_eq_true rfl) dL_law_215 (fun H locs hW => ?_)
  exact lv_icmp_eq (tgt := 1206) X.1.1 X.1.2.1 dL_law_218 (by decide) (fun _ => kk μ2 _ _ R2 hW) (fun h => absurd rfl h)
/-- counter: from its place in the table to the loop's step -/
theorem lw_counter (X : zX p s m #[.ref b] meth c cL_law RL lw_tbl 4 D cy ad ret (lwA s)) (hX : va_X b L xs s s.heap) (hbl : b < s.heap.size) (R : Rel μ) (hW : zW D cy ad (lwA s) s.heap μ H locs) (hl : lv_has ls 4 [(0, .ref b), (1, .ref (ad 9)), (2, .ref (ad 0)), (3, .int (nI i))]) (hi : i + 6 ≤ L) (hL : L ≤ 3072) (hce : CE ≤ room_1.cells ∧ SL ≤ room_1.slots)
    (kk : ∀ (μ2 : mm) (H : Heap) (locs : List Loc), Rel μ2 → zW D cy ad (lwA s) s.heap μ2 H locs → W p l e room_1 s m #[.ref b] below meth c H locs CE SL Q (F0 m 1206 ls [])) : W p l e room_1 s m #[.ref b] below meth c H locs CE SL Q (F0 m 223 ls []) := by
  obtain ⟨r, μ1, μ2, f1, f2, R2⟩ := op_counter 2000 (by decide) R  
  refine lv_aload_n X.1.1 X.1.2.1 dL_law_223 rfl (lv_at hl 1 rfl) ?_
  refine lw_call7I (pc := 224) (n := 0) (As := []) (rest := []) X hW hl (i := 9) rfl (C4_counter l 2000  μ f1) gL_law_X4_counter rfl (by decide +kernel) rfl ⟨by decide, by decide⟩ hce rfl (Nat.le_of_ble_eq_true rfl) dL_law_224 (fun H locs hW => ?_)
  refine lv_aload_n X.1.1 X.1.2.1 dL_law_227 rfl (lv_at hl 2 rfl) ?_
  refine lw_call1I (pc := 228) (n := 0) (As := []) (rest := [.int (iO r)]) X hW hl (i := 0) rfl (C5_counter l 2000  μ1 f2) gL_law_X5_counter rfl (by decide +kernel) rfl ⟨by decide, by decide⟩ hce rfl (Nat.le_of_ble_eq_true rfl) dL_law_228 (fun H locs hW => ?_)
  exact lv_icmp_eq (tgt := 1206) X.1.1 X.1.2.1 dL_law_231 (by decide) (fun _ => kk μ2 _ _ R2 hW) (fun h => absurd rfl h)
/-- person: from its place in the table to the loop's step -/
theorem lw_person (X : zX p s m #[.ref b] meth c cL_law RL lw_tbl 4 D cy ad ret (lwA s)) (hX : va_X b L xs s s.heap) (hbl : b < s.heap.size) (R : Rel μ) (hW : zW D cy ad (lwA s) s.heap μ H locs) (hl : lv_has ls 4 [(0, .ref b), (1, .ref (ad 9)), (2, .ref (ad 0)), (3, .int (nI i))]) (hi : i + 6 ≤ L) (hL : L ≤ 3072) (hce : CE ≤ room_1.cells ∧ SL ≤ room_1.slots)
    (kk : ∀ (μ2 : mm) (H : Heap) (locs : List Loc), Rel μ2 → zW D cy ad (lwA s) s.heap μ2 H locs → W p l e room_1 s m #[.ref b] below meth c H locs CE SL Q (F0 m 1206 ls [])) : W p l e room_1 s m #[.ref b] below meth c H locs CE SL Q (F0 m 236 ls []) := by
  obtain ⟨r, μ1, μ2, f1, f2, R2⟩ := op_person 2000 R (p := (xs (i + 1)).toInt) (w := (xs (i + 2)).toInt) (in_of _) (in_of _)
  refine lv_aload_n X.1.1 X.1.2.1 dL_law_236 rfl (lv_at hl 1 rfl) ?_
  refine lw_arg X.1.1 X.1.2.1 hX hbl hW.2.2 hl 1 (by omega) hL dL_law_237 dL_law_238 dL_law_239 rfl dL_law_240 dL_law_241 ?_
  refine lw_arg X.1.1 X.1.2.1 hX hbl hW.2.2 hl 2 (by omega) hL dL_law_242 dL_law_243 dL_law_244 rfl dL_law_245 dL_law_246 ?_
  refine lw_call7I (pc := 247) (n := 2) (As := [.int (iO (xs (i + 1)).toInt), .int (iO (xs (i + 2)).toInt)]) (rest := []) X hW hl (i := 9) rfl (C4_person l 2000 (xs (i + 1)).toInt (xs (i + 2)).toInt μ f1) gL_law_X4_person rfl (by decide +kernel) rfl ⟨by decide, by decide⟩ hce rfl (Nat.le_of_ble_eq_true rfl) dL_law_247 (fun H locs hW => ?_)
  refine lv_aload_n X.1.1 X.1.2.1 dL_law_250 rfl (lv_at hl 2 rfl) ?_
  refine lw_arg X.1.1 X.1.2.1 hX hbl hW.2.2 hl 1 (by omega) hL dL_law_251 dL_law_252 dL_law_253 rfl dL_law_254 dL_law_255 ?_
  refine lw_arg X.1.1 X.1.2.1 hX hbl hW.2.2 hl 2 (by omega) hL dL_law_256 dL_law_257 dL_law_258 rfl dL_law_259 dL_law_260 ?_
  refine lw_call1I (pc := 261) (n := 2) (As := [.int (iO (xs (i + 1)).toInt), .int (iO (xs (i + 2)).toInt)]) (rest := [.int (iO r)]) X hW hl (i := 0) rfl (C5_person l 2000 (xs (i + 1)).toInt (xs (i + 2)).toInt μ1 f2) gL_law_X5_person rfl (by decide +kernel) rfl ⟨by decide, by decide⟩ hce rfl (Nat.le_of_ble_eq_true rfl) dL_law_261 (fun H locs hW => ?_)
  exact lv_icmp_eq (tgt := 1206) X.1.1 X.1.2.1 dL_law_264 (by decide) (fun _ => kk μ2 _ _ R2 hW) (fun h => absurd rfl h)
/-- issues: from its place in the table to the loop's step -/
theorem lw_issues (X : zX p s m #[.ref b] meth c cL_law RL lw_tbl 4 D cy ad ret (lwA s)) (hX : va_X b L xs s s.heap) (hbl : b < s.heap.size) (R : Rel μ) (hW : zW D cy ad (lwA s) s.heap μ H locs) (hl : lv_has ls 4 [(0, .ref b), (1, .ref (ad 9)), (2, .ref (ad 0)), (3, .int (nI i))]) (hi : i + 6 ≤ L) (hL : L ≤ 3072) (hce : CE ≤ room_1.cells ∧ SL ≤ room_1.slots)
    (kk : ∀ (μ2 : mm) (H : Heap) (locs : List Loc), Rel μ2 → zW D cy ad (lwA s) s.heap μ2 H locs → W p l e room_1 s m #[.ref b] below meth c H locs CE SL Q (F0 m 1206 ls [])) : W p l e room_1 s m #[.ref b] below meth c H locs CE SL Q (F0 m 269 ls []) := by
  obtain ⟨r, μ1, μ2, f1, f2, R2⟩ := op_issues 2000 R (p := (xs (i + 1)).toInt) (v := (xs (i + 2)).toInt) (in_of _) (in_of _)
  refine lv_aload_n X.1.1 X.1.2.1 dL_law_269 rfl (lv_at hl 1 rfl) ?_
  refine lw_arg X.1.1 X.1.2.1 hX hbl hW.2.2 hl 1 (by omega) hL dL_law_270 dL_law_271 dL_law_272 rfl dL_law_273 dL_law_274 ?_
  refine lw_arg X.1.1 X.1.2.1 hX hbl hW.2.2 hl 2 (by omega) hL dL_law_275 dL_law_276 dL_law_277 rfl dL_law_278 dL_law_279 ?_
  refine lw_call7I (pc := 280) (n := 2) (As := [.int (iO (xs (i + 1)).toInt), .int (iO (xs (i + 2)).toInt)]) (rest := []) X hW hl (i := 9) rfl (C4_issues l 2000 (xs (i + 1)).toInt (xs (i + 2)).toInt μ f1) gL_law_X4_issues rfl (by decide +kernel) rfl ⟨by decide, by decide⟩ hce rfl (Nat.le_of_ble_eq_true rfl) dL_law_280 (fun H locs hW => ?_)
  refine lv_aload_n X.1.1 X.1.2.1 dL_law_283 rfl (lv_at hl 2 rfl) ?_
  refine lw_arg X.1.1 X.1.2.1 hX hbl hW.2.2 hl 1 (by omega) hL dL_law_284 dL_law_285 dL_law_286 rfl dL_law_287 dL_law_288 ?_
  refine lw_arg X.1.1 X.1.2.1 hX hbl hW.2.2 hl 2 (by omega) hL dL_law_289 dL_law_290 dL_law_291 rfl dL_law_292 dL_law_293 ?_
  refine lw_call1I (pc := 294) (n := 2) (As := [.int (iO (xs (i + 1)).toInt), .int (iO (xs (i + 2)).toInt)]) (rest := [.int (iO r)]) X hW hl (i := 0) rfl (C5_issues l 2000 (xs (i + 1)).toInt (xs (i + 2)).toInt μ1 f2) gL_law_X5_issues rfl (by decide +kernel) rfl ⟨by decide, by decide⟩ hce rfl (Nat.le_of_ble_eq_true rfl) dL_law_294 (fun H locs hW => ?_)
  exact lv_icmp_eq (tgt := 1206) X.1.1 X.1.2.1 dL_law_297 (by decide) (fun _ => kk μ2 _ _ R2 hW) (fun h => absurd rfl h)
/-- returns: from its place in the table to the loop's step -/
theorem lw_returns (X : zX p s m #[.ref b] meth c cL_law RL lw_tbl 4 D cy ad ret (lwA s)) (hX : va_X b L xs s s.heap) (hbl : b < s.heap.size) (R : Rel μ) (hW : zW D cy ad (lwA s) s.heap μ H locs) (hl : lv_has ls 4 [(0, .ref b), (1, .ref (ad 9)), (2, .ref (ad 0)), (3, .int (nI i))]) (hi : i + 6 ≤ L) (hL : L ≤ 3072) (hce : CE ≤ room_1.cells ∧ SL ≤ room_1.slots)
    (kk : ∀ (μ2 : mm) (H : Heap) (locs : List Loc), Rel μ2 → zW D cy ad (lwA s) s.heap μ2 H locs → W p l e room_1 s m #[.ref b] below meth c H locs CE SL Q (F0 m 1206 ls [])) : W p l e room_1 s m #[.ref b] below meth c H locs CE SL Q (F0 m 302 ls []) := by
  obtain ⟨r, μ1, μ2, f1, f2, R2⟩ := op_returns 2000 R (p := (xs (i + 1)).toInt) (in_of _)
  refine lv_aload_n X.1.1 X.1.2.1 dL_law_302 rfl (lv_at hl 1 rfl) ?_
  refine lw_arg X.1.1 X.1.2.1 hX hbl hW.2.2 hl 1 (by omega) hL dL_law_303 dL_law_304 dL_law_305 rfl dL_law_306 dL_law_307 ?_
  refine lw_call7I (pc := 308) (n := 1) (As := [.int (iO (xs (i + 1)).toInt)]) (rest := []) X hW hl (i := 9) rfl (C4_returns l 2000 (xs (i + 1)).toInt μ f1) gL_law_X4_returns rfl (by decide +kernel) rfl ⟨by decide, by decide⟩ hce rfl (Nat.le_of_ble_eq_true rfl) dL_law_308 (fun H locs hW => ?_)
  refine lv_aload_n X.1.1 X.1.2.1 dL_law_311 rfl (lv_at hl 2 rfl) ?_
  refine lw_arg X.1.1 X.1.2.1 hX hbl hW.2.2 hl 1 (by omega) hL dL_law_312 dL_law_313 dL_law_314 rfl dL_law_315 dL_law_316 ?_
  refine lw_call1I (pc := 317) (n := 1) (As := [.int (iO (xs (i + 1)).toInt)]) (rest := [.int (iO r)]) X hW hl (i := 0) rfl (C5_returns l 2000 (xs (i + 1)).toInt μ1 f2) gL_law_X5_returns rfl (by decide +kernel) rfl ⟨by decide, by decide⟩ hce rfl (Nat.le_of_ble_eq_true rfl) dL_law_317 (fun H locs hW => ?_)
  exact lv_icmp_eq (tgt := 1206) X.1.1 X.1.2.1 dL_law_320 (by decide) (fun _ => kk μ2 _ _ R2 hW) (fun h => absurd rfl h)
/-- due: from its place in the table to the loop's step -/
theorem lw_due (X : zX p s m #[.ref b] meth c cL_law RL lw_tbl 4 D cy ad ret (lwA s)) (hX : va_X b L xs s s.heap) (hbl : b < s.heap.size) (R : Rel μ) (hW : zW D cy ad (lwA s) s.heap μ H locs) (hl : lv_has ls 4 [(0, .ref b), (1, .ref (ad 9)), (2, .ref (ad 0)), (3, .int (nI i))]) (hi : i + 6 ≤ L) (hL : L ≤ 3072) (hce : CE ≤ room_1.cells ∧ SL ≤ room_1.slots)
    (kk : ∀ (μ2 : mm) (H : Heap) (locs : List Loc), Rel μ2 → zW D cy ad (lwA s) s.heap μ2 H locs → W p l e room_1 s m #[.ref b] below meth c H locs CE SL Q (F0 m 1206 ls [])) : W p l e room_1 s m #[.ref b] below meth c H locs CE SL Q (F0 m 325 ls []) := by
  obtain ⟨r, μ1, μ2, f1, f2, R2⟩ := op_due 2000 R (p := (xs (i + 1)).toInt) (v := (xs (i + 2)).toInt) (in_of _) (in_of _)
  refine lv_aload_n X.1.1 X.1.2.1 dL_law_325 rfl (lv_at hl 1 rfl) ?_
  refine lw_arg X.1.1 X.1.2.1 hX hbl hW.2.2 hl 1 (by omega) hL dL_law_326 dL_law_327 dL_law_328 rfl dL_law_329 dL_law_330 ?_
  refine lw_arg X.1.1 X.1.2.1 hX hbl hW.2.2 hl 2 (by omega) hL dL_law_331 dL_law_332 dL_law_333 rfl dL_law_334 dL_law_335 ?_
  refine lw_call7I (pc := 336) (n := 2) (As := [.int (iO (xs (i + 1)).toInt), .int (iO (xs (i + 2)).toInt)]) (rest := []) X hW hl (i := 9) rfl (C4_due l 2000 (xs (i + 1)).toInt (xs (i + 2)).toInt μ f1) gL_law_X4_due rfl (by decide +kernel) rfl ⟨by decide, by decide⟩ hce rfl (Nat.le_of_ble_eq_true rfl) dL_law_336 (fun H locs hW => ?_)
  refine lv_aload_n X.1.1 X.1.2.1 dL_law_339 rfl (lv_at hl 2 rfl) ?_
  refine lw_arg X.1.1 X.1.2.1 hX hbl hW.2.2 hl 1 (by omega) hL dL_law_340 dL_law_341 dL_law_342 rfl dL_law_343 dL_law_344 ?_
  refine lw_arg X.1.1 X.1.2.1 hX hbl hW.2.2 hl 2 (by omega) hL dL_law_345 dL_law_346 dL_law_347 rfl dL_law_348 dL_law_349 ?_
  refine lw_call1I (pc := 350) (n := 2) (As := [.int (iO (xs (i + 1)).toInt), .int (iO (xs (i + 2)).toInt)]) (rest := [.int (iO r)]) X hW hl (i := 0) rfl (C5_due l 2000 (xs (i + 1)).toInt (xs (i + 2)).toInt μ1 f2) gL_law_X5_due rfl (by decide +kernel) rfl ⟨by decide, by decide⟩ hce rfl (Nat.le_of_ble_eq_true rfl) dL_law_350 (fun H locs hW => ?_)
  exact lv_icmp_eq (tgt := 1206) X.1.1 X.1.2.1 dL_law_353 (by decide) (fun _ => kk μ2 _ _ R2 hW) (fun h => absurd rfl h)
/-- fills: from its place in the table to the loop's step -/
theorem lw_fills (X : zX p s m #[.ref b] meth c cL_law RL lw_tbl 4 D cy ad ret (lwA s)) (hX : va_X b L xs s s.heap) (hbl : b < s.heap.size) (R : Rel μ) (hW : zW D cy ad (lwA s) s.heap μ H locs) (hl : lv_has ls 4 [(0, .ref b), (1, .ref (ad 9)), (2, .ref (ad 0)), (3, .int (nI i))]) (hi : i + 6 ≤ L) (hL : L ≤ 3072) (hce : CE ≤ room_1.cells ∧ SL ≤ room_1.slots)
    (kk : ∀ (μ2 : mm) (H : Heap) (locs : List Loc), Rel μ2 → zW D cy ad (lwA s) s.heap μ2 H locs → W p l e room_1 s m #[.ref b] below meth c H locs CE SL Q (F0 m 1206 ls [])) : W p l e room_1 s m #[.ref b] below meth c H locs CE SL Q (F0 m 358 ls []) := by
  obtain ⟨r, μ1, μ2, f1, f2, R2⟩ := op_fills 2000 R (v := (xs (i + 1)).toInt) (in_of _)
  refine lv_aload_n X.1.1 X.1.2.1 dL_law_358 rfl (lv_at hl 1 rfl) ?_
  refine lw_arg X.1.1 X.1.2.1 hX hbl hW.2.2 hl 1 (by omega) hL dL_law_359 dL_law_360 dL_law_361 rfl dL_law_362 dL_law_363 ?_
  refine lw_call7I (pc := 364) (n := 1) (As := [.int (iO (xs (i + 1)).toInt)]) (rest := []) X hW hl (i := 9) rfl (C4_fills l 2000 (xs (i + 1)).toInt μ f1) gL_law_X4_fills rfl (by decide +kernel) rfl ⟨by decide, by decide⟩ hce rfl (Nat.le_of_ble_eq_true rfl) dL_law_364 (fun H locs hW => ?_)
  refine lv_aload_n X.1.1 X.1.2.1 dL_law_367 rfl (lv_at hl 2 rfl) ?_
  refine lw_arg X.1.1 X.1.2.1 hX hbl hW.2.2 hl 1 (by omega) hL dL_law_368 dL_law_369 dL_law_370 rfl dL_law_371 dL_law_372 ?_
  refine lw_call1I (pc := 373) (n := 1) (As := [.int (iO (xs (i + 1)).toInt)]) (rest := [.int (iO r)]) X hW hl (i := 0) rfl (C5_fills l 2000 (xs (i + 1)).toInt μ1 f2) gL_law_X5_fills rfl (by decide +kernel) rfl ⟨by decide, by decide⟩ hce rfl (Nat.le_of_ble_eq_true rfl) dL_law_373 (fun H locs hW => ?_)
  exact lv_icmp_eq (tgt := 1206) X.1.1 X.1.2.1 dL_law_376 (by decide) (fun _ => kk μ2 _ _ R2 hW) (fun h => absurd rfl h)
/-- turn: from its place in the table to the loop's step -/
theorem lw_turn (X : zX p s m #[.ref b] meth c cL_law RL lw_tbl 4 D cy ad ret (lwA s)) (hX : va_X b L xs s s.heap) (hbl : b < s.heap.size) (R : Rel μ) (hW : zW D cy ad (lwA s) s.heap μ H locs) (hl : lv_has ls 4 [(0, .ref b), (1, .ref (ad 9)), (2, .ref (ad 0)), (3, .int (nI i))]) (hi : i + 6 ≤ L) (hL : L ≤ 3072) (hce : CE ≤ room_1.cells ∧ SL ≤ room_1.slots)
    (kk : ∀ (μ2 : mm) (H : Heap) (locs : List Loc), Rel μ2 → zW D cy ad (lwA s) s.heap μ2 H locs → W p l e room_1 s m #[.ref b] below meth c H locs CE SL Q (F0 m 1206 ls [])) : W p l e room_1 s m #[.ref b] below meth c H locs CE SL Q (F0 m 381 ls []) := by
  obtain ⟨r, μ1, μ2, f1, f2, R2⟩ := op_turn 2000 R (p := (xs (i + 1)).toInt) (v := (xs (i + 2)).toInt) (w := (xs (i + 3)).toInt) (in_of _) (in_of _) (in_of _)
  refine lv_aload_n X.1.1 X.1.2.1 dL_law_381 rfl (lv_at hl 1 rfl) ?_
  refine lw_arg X.1.1 X.1.2.1 hX hbl hW.2.2 hl 1 (by omega) hL dL_law_382 dL_law_383 dL_law_384 rfl dL_law_385 dL_law_386 ?_
  refine lw_arg X.1.1 X.1.2.1 hX hbl hW.2.2 hl 2 (by omega) hL dL_law_387 dL_law_388 dL_law_389 rfl dL_law_390 dL_law_391 ?_
  refine lw_arg X.1.1 X.1.2.1 hX hbl hW.2.2 hl 3 (by omega) hL dL_law_392 dL_law_393 dL_law_394 rfl dL_law_395 dL_law_396 ?_
  refine lw_call7I (pc := 397) (n := 3) (As := [.int (iO (xs (i + 1)).toInt), .int (iO (xs (i + 2)).toInt), .int (iO (xs (i + 3)).toInt)]) (rest := []) X hW hl (i := 9) rfl (C4_turn l 2000 (xs (i + 1)).toInt (xs (i + 2)).toInt (xs (i + 3)).toInt μ f1) gL_law_X4_turn rfl (by decide +kernel) rfl ⟨by decide, by decide⟩ hce rfl (Nat.le_of_ble_eq_true rfl) dL_law_397 (fun H locs hW => ?_)
  refine lv_aload_n X.1.1 X.1.2.1 dL_law_400 rfl (lv_at hl 2 rfl) ?_
  refine lw_arg X.1.1 X.1.2.1 hX hbl hW.2.2 hl 1 (by omega) hL dL_law_401 dL_law_402 dL_law_403 rfl dL_law_404 dL_law_405 ?_
  refine lw_arg X.1.1 X.1.2.1 hX hbl hW.2.2 hl 2 (by omega) hL dL_law_406 dL_law_407 dL_law_408 rfl dL_law_409 dL_law_410 ?_
  refine lw_arg X.1.1 X.1.2.1 hX hbl hW.2.2 hl 3 (by omega) hL dL_law_411 dL_law_412 dL_law_413 rfl dL_law_414 dL_law_415 ?_
  refine lw_call1I (pc := 416) (n := 3) (As := [.int (iO (xs (i + 1)).toInt), .int (iO (xs (i + 2)).toInt), .int (iO (xs (i + 3)).toInt)]) (rest := [.int (iO r)]) X hW hl (i := 0) rfl (C5_turn l 2000 (xs (i + 1)).toInt (xs (i + 2)).toInt (xs (i + 3)).toInt μ1 f2) gL_law_X5_turn rfl (by decide +kernel) rfl ⟨by decide, by decide⟩ hce rfl (Nat.le_of_ble_eq_true rfl) dL_law_416 (fun H locs hW => ?_)
  exact lv_icmp_eq (tgt := 1206) X.1.1 X.1.2.1 dL_law_419 (by decide) (fun _ => kk μ2 _ _ R2 hW) (fun h => absurd rfl h)
/-- days: from its place in the table to the loop's step -/
theorem lw_days (X : zX p s m #[.ref b] meth c cL_law RL lw_tbl 4 D cy ad ret (lwA s)) (hX : va_X b L xs s s.heap) (hbl : b < s.heap.size) (R : Rel μ) (hW : zW D cy ad (lwA s) s.heap μ H locs) (hl : lv_has ls 4 [(0, .ref b), (1, .ref (ad 9)), (2, .ref (ad 0)), (3, .int (nI i))]) (hi : i + 6 ≤ L) (hL : L ≤ 3072) (hce : CE ≤ room_1.cells ∧ SL ≤ room_1.slots)
    (kk : ∀ (μ2 : mm) (H : Heap) (locs : List Loc), Rel μ2 → zW D cy ad (lwA s) s.heap μ2 H locs → W p l e room_1 s m #[.ref b] below meth c H locs CE SL Q (F0 m 1206 ls [])) : W p l e room_1 s m #[.ref b] below meth c H locs CE SL Q (F0 m 424 ls []) := by
  obtain ⟨r, μ1, μ2, f1, f2, R2⟩ := op_days 2000 (by decide) R (n := (xs (i + 1)).toInt) (in_of _)
  refine lv_aload_n X.1.1 X.1.2.1 dL_law_424 rfl (lv_at hl 1 rfl) ?_
  refine lw_arg X.1.1 X.1.2.1 hX hbl hW.2.2 hl 1 (by omega) hL dL_law_425 dL_law_426 dL_law_427 rfl dL_law_428 dL_law_429 ?_
  refine lw_call7I (pc := 430) (n := 1) (As := [.int (iO (xs (i + 1)).toInt)]) (rest := []) X hW hl (i := 9) rfl (C4_days l 2000 (xs (i + 1)).toInt μ f1) gL_law_X4_days rfl (by decide +kernel) rfl ⟨by decide, by decide⟩ hce rfl (Nat.le_of_ble_eq_true rfl) dL_law_430 (fun H locs hW => ?_)
  refine lv_aload_n X.1.1 X.1.2.1 dL_law_433 rfl (lv_at hl 2 rfl) ?_
  refine lw_arg X.1.1 X.1.2.1 hX hbl hW.2.2 hl 1 (by omega) hL dL_law_434 dL_law_435 dL_law_436 rfl dL_law_437 dL_law_438 ?_
  refine lw_call1I (pc := 439) (n := 1) (As := [.int (iO (xs (i + 1)).toInt)]) (rest := [.int (iO r)]) X hW hl (i := 0) rfl (C5_days l 2000 (xs (i + 1)).toInt μ1 f2) gL_law_X5_days rfl (by decide +kernel) rfl ⟨by decide, by decide⟩ hce rfl (Nat.le_of_ble_eq_true rfl) dL_law_439 (fun H locs hW => ?_)
  exact lv_icmp_eq (tgt := 1206) X.1.1 X.1.2.1 dL_law_442 (by decide) (fun _ => kk μ2 _ _ R2 hW) (fun h => absurd rfl h)
/-- personThen: from its place in the table to the loop's step -/
theorem lw_personThen (X : zX p s m #[.ref b] meth c cL_law RL lw_tbl 4 D cy ad ret (lwA s)) (hX : va_X b L xs s s.heap) (hbl : b < s.heap.size) (R : Rel μ) (hW : zW D cy ad (lwA s) s.heap μ H locs) (hl : lv_has ls 4 [(0, .ref b), (1, .ref (ad 9)), (2, .ref (ad 0)), (3, .int (nI i))]) (hi : i + 6 ≤ L) (hL : L ≤ 3072) (hce : CE ≤ room_1.cells ∧ SL ≤ room_1.slots)
    (kk : ∀ (μ2 : mm) (H : Heap) (locs : List Loc), Rel μ2 → zW D cy ad (lwA s) s.heap μ2 H locs → W p l e room_1 s m #[.ref b] below meth c H locs CE SL Q (F0 m 1206 ls [])) : W p l e room_1 s m #[.ref b] below meth c H locs CE SL Q (F0 m 447 ls []) := by
  obtain ⟨r, μ1, μ2, f1, f2, R2⟩ := op_personThen 2000 (by decide) R (p := (xs (i + 1)).toInt) (n := (xs (i + 2)).toInt) (w := (xs (i + 3)).toInt) (in_of _) (in_of _) (in_of _)
  refine lv_aload_n X.1.1 X.1.2.1 dL_law_447 rfl (lv_at hl 1 rfl) ?_
  refine lw_arg X.1.1 X.1.2.1 hX hbl hW.2.2 hl 1 (by omega) hL dL_law_448 dL_law_449 dL_law_450 rfl dL_law_451 dL_law_452 ?_
  refine lw_arg X.1.1 X.1.2.1 hX hbl hW.2.2 hl 2 (by omega) hL dL_law_453 dL_law_454 dL_law_455 rfl dL_law_456 dL_law_457 ?_
  refine lw_arg X.1.1 X.1.2.1 hX hbl hW.2.2 hl 3 (by omega) hL dL_law_458 dL_law_459 dL_law_460 rfl dL_law_461 dL_law_462 ?_
  refine lw_call7I (pc := 463) (n := 3) (As := [.int (iO (xs (i + 1)).toInt), .int (iO (xs (i + 2)).toInt), .int (iO (xs (i + 3)).toInt)]) (rest := []) X hW hl (i := 9) rfl (C4_personThen l 2000 (xs (i + 1)).toInt (xs (i + 2)).toInt (xs (i + 3)).toInt μ f1) gL_law_X4_personThen rfl (by decide +kernel) rfl ⟨by decide, by decide⟩ hce rfl (Nat.le_of_ble_eq_true rfl) dL_law_463 (fun H locs hW => ?_)
  refine lv_aload_n X.1.1 X.1.2.1 dL_law_466 rfl (lv_at hl 2 rfl) ?_
  refine lw_arg X.1.1 X.1.2.1 hX hbl hW.2.2 hl 1 (by omega) hL dL_law_467 dL_law_468 dL_law_469 rfl dL_law_470 dL_law_471 ?_
  refine lw_arg X.1.1 X.1.2.1 hX hbl hW.2.2 hl 2 (by omega) hL dL_law_472 dL_law_473 dL_law_474 rfl dL_law_475 dL_law_476 ?_
  refine lw_arg X.1.1 X.1.2.1 hX hbl hW.2.2 hl 3 (by omega) hL dL_law_477 dL_law_478 dL_law_479 rfl dL_law_480 dL_law_481 ?_
  refine lw_call1I (pc := 482) (n := 3) (As := [.int (iO (xs (i + 1)).toInt), .int (iO (xs (i + 2)).toInt), .int (iO (xs (i + 3)).toInt)]) (rest := [.int (iO r)]) X hW hl (i := 0) rfl (C5_personThen l 2000 (xs (i + 1)).toInt (xs (i + 2)).toInt (xs (i + 3)).toInt μ1 f2) gL_law_X5_personThen rfl (by decide +kernel) rfl ⟨by decide, by decide⟩ hce rfl (Nat.le_of_ble_eq_true rfl) dL_law_482 (fun H locs hW => ?_)
  exact lv_icmp_eq (tgt := 1206) X.1.1 X.1.2.1 dL_law_485 (by decide) (fun _ => kk μ2 _ _ R2 hW) (fun h => absurd rfl h)
/-- allThen: from its place in the table to the loop's step -/
theorem lw_allThen (X : zX p s m #[.ref b] meth c cL_law RL lw_tbl 4 D cy ad ret (lwA s)) (hX : va_X b L xs s s.heap) (hbl : b < s.heap.size) (R : Rel μ) (hW : zW D cy ad (lwA s) s.heap μ H locs) (hl : lv_has ls 4 [(0, .ref b), (1, .ref (ad 9)), (2, .ref (ad 0)), (3, .int (nI i))]) (hi : i + 6 ≤ L) (hL : L ≤ 3072) (hce : CE ≤ room_1.cells ∧ SL ≤ room_1.slots)
    (kk : ∀ (μ2 : mm) (H : Heap) (locs : List Loc), Rel μ2 → zW D cy ad (lwA s) s.heap μ2 H locs → W p l e room_1 s m #[.ref b] below meth c H locs CE SL Q (F0 m 1206 ls [])) : W p l e room_1 s m #[.ref b] below meth c H locs CE SL Q (F0 m 490 ls []) := by
  obtain ⟨r, μ1, μ2, f1, f2, R2⟩ := op_allThen 2000 (by decide) R (n := (xs (i + 1)).toInt) (w := (xs (i + 2)).toInt) (in_of _) (in_of _)
  refine lv_aload_n X.1.1 X.1.2.1 dL_law_490 rfl (lv_at hl 1 rfl) ?_
  refine lw_arg X.1.1 X.1.2.1 hX hbl hW.2.2 hl 1 (by omega) hL dL_law_491 dL_law_492 dL_law_493 rfl dL_law_494 dL_law_495 ?_
  refine lw_arg X.1.1 X.1.2.1 hX hbl hW.2.2 hl 2 (by omega) hL dL_law_496 dL_law_497 dL_law_498 rfl dL_law_499 dL_law_500 ?_
  refine lw_call7I (pc := 501) (n := 2) (As := [.int (iO (xs (i + 1)).toInt), .int (iO (xs (i + 2)).toInt)]) (rest := []) X hW hl (i := 9) rfl (C4_allThen l 2000 (xs (i + 1)).toInt (xs (i + 2)).toInt μ f1) gL_law_X4_allThen rfl (by decide +kernel) rfl ⟨by decide, by decide⟩ hce rfl (Nat.le_of_ble_eq_true rfl) dL_law_501 (fun H locs hW => ?_)
  refine lv_aload_n X.1.1 X.1.2.1 dL_law_504 rfl (lv_at hl 2 rfl) ?_
  refine lw_arg X.1.1 X.1.2.1 hX hbl hW.2.2 hl 1 (by omega) hL dL_law_505 dL_law_506 dL_law_507 rfl dL_law_508 dL_law_509 ?_
  refine lw_arg X.1.1 X.1.2.1 hX hbl hW.2.2 hl 2 (by omega) hL dL_law_510 dL_law_511 dL_law_512 rfl dL_law_513 dL_law_514 ?_
  refine lw_call1I (pc := 515) (n := 2) (As := [.int (iO (xs (i + 1)).toInt), .int (iO (xs (i + 2)).toInt)]) (rest := [.int (iO r)]) X hW hl (i := 0) rfl (C5_allThen l 2000 (xs (i + 1)).toInt (xs (i + 2)).toInt μ1 f2) gL_law_X5_allThen rfl (by decide +kernel) rfl ⟨by decide, by decide⟩ hce rfl (Nat.le_of_ble_eq_true rfl) dL_law_515 (fun H locs hW => ?_)
  exact lv_icmp_eq (tgt := 1206) X.1.1 X.1.2.1 dL_law_518 (by decide) (fun _ => kk μ2 _ _ R2 hW) (fun h => absurd rfl h)
/-- first: from its place in the table to the loop's step -/
theorem lw_first (X : zX p s m #[.ref b] meth c cL_law RL lw_tbl 4 D cy ad ret (lwA s)) (hX : va_X b L xs s s.heap) (hbl : b < s.heap.size) (R : Rel μ) (hW : zW D cy ad (lwA s) s.heap μ H locs) (hl : lv_has ls 4 [(0, .ref b), (1, .ref (ad 9)), (2, .ref (ad 0)), (3, .int (nI i))]) (hi : i + 6 ≤ L) (hL : L ≤ 3072) (hce : CE ≤ room_1.cells ∧ SL ≤ room_1.slots)
    (kk : ∀ (μ2 : mm) (H : Heap) (locs : List Loc), Rel μ2 → zW D cy ad (lwA s) s.heap μ2 H locs → W p l e room_1 s m #[.ref b] below meth c H locs CE SL Q (F0 m 1206 ls [])) : W p l e room_1 s m #[.ref b] below meth c H locs CE SL Q (F0 m 523 ls []) := by
  obtain ⟨r, μ1, μ2, f1, f2, R2⟩ := op_first 2000 (by decide) R (w := (xs (i + 1)).toInt) (in_of _)
  refine lv_aload_n X.1.1 X.1.2.1 dL_law_523 rfl (lv_at hl 1 rfl) ?_
  refine lw_arg X.1.1 X.1.2.1 hX hbl hW.2.2 hl 1 (by omega) hL dL_law_524 dL_law_525 dL_law_526 rfl dL_law_527 dL_law_528 ?_
  refine lw_call7I (pc := 529) (n := 1) (As := [.int (iO (xs (i + 1)).toInt)]) (rest := []) X hW hl (i := 9) rfl (C4_first l 2000 (xs (i + 1)).toInt μ f1) gL_law_X4_first rfl (by decide +kernel) rfl ⟨by decide, by decide⟩ hce rfl (Nat.le_of_ble_eq_true rfl) dL_law_529 (fun H locs hW => ?_)
  refine lv_aload_n X.1.1 X.1.2.1 dL_law_532 rfl (lv_at hl 2 rfl) ?_
  refine lw_arg X.1.1 X.1.2.1 hX hbl hW.2.2 hl 1 (by omega) hL dL_law_533 dL_law_534 dL_law_535 rfl dL_law_536 dL_law_537 ?_
  refine lw_call1I (pc := 538) (n := 1) (As := [.int (iO (xs (i + 1)).toInt)]) (rest := [.int (iO r)]) X hW hl (i := 0) rfl (C5_first l 2000 (xs (i + 1)).toInt μ1 f2) gL_law_X5_first rfl (by decide +kernel) rfl ⟨by decide, by decide⟩ hce rfl (Nat.le_of_ble_eq_true rfl) dL_law_538 (fun H locs hW => ?_)
  exact lv_icmp_eq (tgt := 1206) X.1.1 X.1.2.1 dL_law_541 (by decide) (fun _ => kk μ2 _ _ R2 hW) (fun h => absurd rfl h)
/-- lasts: from its place in the table to the loop's step -/
theorem lw_lasts (X : zX p s m #[.ref b] meth c cL_law RL lw_tbl 4 D cy ad ret (lwA s)) (hX : va_X b L xs s s.heap) (hbl : b < s.heap.size) (R : Rel μ) (hW : zW D cy ad (lwA s) s.heap μ H locs) (hl : lv_has ls 4 [(0, .ref b), (1, .ref (ad 9)), (2, .ref (ad 0)), (3, .int (nI i))]) (hi : i + 6 ≤ L) (hL : L ≤ 3072) (hce : CE ≤ room_1.cells ∧ SL ≤ room_1.slots)
    (kk : ∀ (μ2 : mm) (H : Heap) (locs : List Loc), Rel μ2 → zW D cy ad (lwA s) s.heap μ2 H locs → W p l e room_1 s m #[.ref b] below meth c H locs CE SL Q (F0 m 1206 ls [])) : W p l e room_1 s m #[.ref b] below meth c H locs CE SL Q (F0 m 546 ls []) := by
  obtain ⟨r, μ1, μ2, f1, f2, R2⟩ := op_lasts 2000 (by decide) R (p := (xs (i + 1)).toInt) (in_of _)
  refine lv_aload_n X.1.1 X.1.2.1 dL_law_546 rfl (lv_at hl 1 rfl) ?_
  refine lw_arg X.1.1 X.1.2.1 hX hbl hW.2.2 hl 1 (by omega) hL dL_law_547 dL_law_548 dL_law_549 rfl dL_law_550 dL_law_551 ?_
  refine lw_call7I (pc := 552) (n := 1) (As := [.int (iO (xs (i + 1)).toInt)]) (rest := []) X hW hl (i := 9) rfl (C4_lasts l 2000 (xs (i + 1)).toInt μ f1) gL_law_X4_lasts rfl (by decide +kernel) rfl ⟨by decide, by decide⟩ hce rfl (Nat.le_of_ble_eq_true rfl) dL_law_552 (fun H locs hW => ?_)
  refine lv_aload_n X.1.1 X.1.2.1 dL_law_555 rfl (lv_at hl 2 rfl) ?_
  refine lw_arg X.1.1 X.1.2.1 hX hbl hW.2.2 hl 1 (by omega) hL dL_law_556 dL_law_557 dL_law_558 rfl dL_law_559 dL_law_560 ?_
  refine lw_call1I (pc := 561) (n := 1) (As := [.int (iO (xs (i + 1)).toInt)]) (rest := [.int (iO r)]) X hW hl (i := 0) rfl (C5_lasts l 2000 (xs (i + 1)).toInt μ1 f2) gL_law_X5_lasts rfl (by decide +kernel) rfl ⟨by decide, by decide⟩ hce rfl (Nat.le_of_ble_eq_true rfl) dL_law_561 (fun H locs hW => ?_)
  exact lv_icmp_eq (tgt := 1206) X.1.1 X.1.2.1 dL_law_564 (by decide) (fun _ => kk μ2 _ _ R2 hW) (fun h => absurd rfl h)
/-- lacks: from its place in the table to the loop's step -/
theorem lw_lacks (X : zX p s m #[.ref b] meth c cL_law RL lw_tbl 4 D cy ad ret (lwA s)) (hX : va_X b L xs s s.heap) (hbl : b < s.heap.size) (R : Rel μ) (hW : zW D cy ad (lwA s) s.heap μ H locs) (hl : lv_has ls 4 [(0, .ref b), (1, .ref (ad 9)), (2, .ref (ad 0)), (3, .int (nI i))]) (hi : i + 6 ≤ L) (hL : L ≤ 3072) (hce : CE ≤ room_1.cells ∧ SL ≤ room_1.slots)
    (kk : ∀ (μ2 : mm) (H : Heap) (locs : List Loc), Rel μ2 → zW D cy ad (lwA s) s.heap μ2 H locs → W p l e room_1 s m #[.ref b] below meth c H locs CE SL Q (F0 m 1206 ls [])) : W p l e room_1 s m #[.ref b] below meth c H locs CE SL Q (F0 m 569 ls []) := by
  obtain ⟨r, f1, f2⟩ := op_lacks 2000 (by decide) R  
  refine lv_aload_n X.1.1 X.1.2.1 dL_law_569 rfl (lv_at hl 1 rfl) ?_
  refine lw_call7I (pc := 570) (n := 0) (As := []) (rest := []) X hW hl (i := 9) rfl (C4_lacks l 2000  μ f1) gL_law_X4_lacks rfl (by decide +kernel) rfl ⟨by decide, by decide⟩ hce rfl (Nat.le_of_ble_eq_true rfl) dL_law_570 (fun H locs hW => ?_)
  refine lv_aload_n X.1.1 X.1.2.1 dL_law_573 rfl (lv_at hl 2 rfl) ?_
  refine lw_call1I (pc := 574) (n := 0) (As := []) (rest := [.int (iO r)]) X hW hl (i := 0) rfl (C5_lacks l 2000  μ f2) gL_law_X5_lacks rfl (by decide +kernel) rfl ⟨by decide, by decide⟩ hce rfl (Nat.le_of_ble_eq_true rfl) dL_law_574 (fun H locs hW => ?_)
  exact lv_icmp_eq (tgt := 1206) X.1.1 X.1.2.1 dL_law_577 (by decide) (fun _ => kk μ _ _ R hW) (fun h => absurd rfl h)
/-- next: from its place in the table to the loop's step -/
theorem lw_next (X : zX p s m #[.ref b] meth c cL_law RL lw_tbl 4 D cy ad ret (lwA s)) (hX : va_X b L xs s s.heap) (hbl : b < s.heap.size) (R : Rel μ) (hW : zW D cy ad (lwA s) s.heap μ H locs) (hl : lv_has ls 4 [(0, .ref b), (1, .ref (ad 9)), (2, .ref (ad 0)), (3, .int (nI i))]) (hi : i + 6 ≤ L) (hL : L ≤ 3072) (hce : CE ≤ room_1.cells ∧ SL ≤ room_1.slots)
    (kk : ∀ (μ2 : mm) (H : Heap) (locs : List Loc), Rel μ2 → zW D cy ad (lwA s) s.heap μ2 H locs → W p l e room_1 s m #[.ref b] below meth c H locs CE SL Q (F0 m 1206 ls [])) : W p l e room_1 s m #[.ref b] below meth c H locs CE SL Q (F0 m 582 ls []) := by
  obtain ⟨r, μ1, μ2, f1, f2, R2⟩ := op_next 2000 (by decide) R (w := (xs (i + 1)).toInt) (in_of _)
  refine lv_aload_n X.1.1 X.1.2.1 dL_law_582 rfl (lv_at hl 1 rfl) ?_
  refine lw_arg X.1.1 X.1.2.1 hX hbl hW.2.2 hl 1 (by omega) hL dL_law_583 dL_law_584 dL_law_585 rfl dL_law_586 dL_law_587 ?_
  refine lw_call7I (pc := 588) (n := 1) (As := [.int (iO (xs (i + 1)).toInt)]) (rest := []) X hW hl (i := 9) rfl (C4_next l 2000 (xs (i + 1)).toInt μ f1) gL_law_X4_next rfl (by decide +kernel) rfl ⟨by decide, by decide⟩ hce rfl (Nat.le_of_ble_eq_true rfl) dL_law_588 (fun H locs hW => ?_)
  refine lv_aload_n X.1.1 X.1.2.1 dL_law_591 rfl (lv_at hl 2 rfl) ?_
  refine lw_arg X.1.1 X.1.2.1 hX hbl hW.2.2 hl 1 (by omega) hL dL_law_592 dL_law_593 dL_law_594 rfl dL_law_595 dL_law_596 ?_
  refine lw_call1I (pc := 597) (n := 1) (As := [.int (iO (xs (i + 1)).toInt)]) (rest := [.int (iO r)]) X hW hl (i := 0) rfl (C5_next l 2000 (xs (i + 1)).toInt μ1 f2) gL_law_X5_next rfl (by decide +kernel) rfl ⟨by decide, by decide⟩ hce rfl (Nat.le_of_ble_eq_true rfl) dL_law_597 (fun H locs hW => ?_)
  exact lv_icmp_eq (tgt := 1206) X.1.1 X.1.2.1 dL_law_600 (by decide) (fun _ => kk μ2 _ _ R2 hW) (fun h => absurd rfl h)
/-- enough: from its place in the table to the loop's step -/
theorem lw_enough (X : zX p s m #[.ref b] meth c cL_law RL lw_tbl 4 D cy ad ret (lwA s)) (hX : va_X b L xs s s.heap) (hbl : b < s.heap.size) (R : Rel μ) (hW : zW D cy ad (lwA s) s.heap μ H locs) (hl : lv_has ls 4 [(0, .ref b), (1, .ref (ad 9)), (2, .ref (ad 0)), (3, .int (nI i))]) (hi : i + 6 ≤ L) (hL : L ≤ 3072) (hce : CE ≤ room_1.cells ∧ SL ≤ room_1.slots)
    (kk : ∀ (μ2 : mm) (H : Heap) (locs : List Loc), Rel μ2 → zW D cy ad (lwA s) s.heap μ2 H locs → W p l e room_1 s m #[.ref b] below meth c H locs CE SL Q (F0 m 1206 ls [])) : W p l e room_1 s m #[.ref b] below meth c H locs CE SL Q (F0 m 605 ls []) := by
  obtain ⟨r, μ1, μ2, f1, f2, R2⟩ := op_enough 2000 (by decide) R (p := (xs (i + 1)).toInt) (n := (xs (i + 2)).toInt) (in_of _) (in_of _)
  refine lv_aload_n X.1.1 X.1.2.1 dL_law_605 rfl (lv_at hl 1 rfl) ?_
  refine lw_arg X.1.1 X.1.2.1 hX hbl hW.2.2 hl 1 (by omega) hL dL_law_606 dL_law_607 dL_law_608 rfl dL_law_609 dL_law_610 ?_
  refine lw_arg X.1.1 X.1.2.1 hX hbl hW.2.2 hl 2 (by omega) hL dL_law_611 dL_law_612 dL_law_613 rfl dL_law_614 dL_law_615 ?_
  refine lw_call7I (pc := 616) (n := 2) (As := [.int (iO (xs (i + 1)).toInt), .int (iO (xs (i + 2)).toInt)]) (rest := []) X hW hl (i := 9) rfl (C4_enough l 2000 (xs (i + 1)).toInt (xs (i + 2)).toInt μ f1) gL_law_X4_enough rfl (by decide +kernel) rfl ⟨by decide, by decide⟩ hce rfl (Nat.le_of_ble_eq_true rfl) dL_law_616 (fun H locs hW => ?_)
  refine lv_aload_n X.1.1 X.1.2.1 dL_law_619 rfl (lv_at hl 2 rfl) ?_
  refine lw_arg X.1.1 X.1.2.1 hX hbl hW.2.2 hl 1 (by omega) hL dL_law_620 dL_law_621 dL_law_622 rfl dL_law_623 dL_law_624 ?_
  refine lw_arg X.1.1 X.1.2.1 hX hbl hW.2.2 hl 2 (by omega) hL dL_law_625 dL_law_626 dL_law_627 rfl dL_law_628 dL_law_629 ?_
  refine lw_call1I (pc := 630) (n := 2) (As := [.int (iO (xs (i + 1)).toInt), .int (iO (xs (i + 2)).toInt)]) (rest := [.int (iO r)]) X hW hl (i := 0) rfl (C5_enough l 2000 (xs (i + 1)).toInt (xs (i + 2)).toInt μ1 f2) gL_law_X5_enough rfl (by decide +kernel) rfl ⟨by decide, by decide⟩ hce rfl (Nat.le_of_ble_eq_true rfl) dL_law_630 (fun H locs hW => ?_)
  exact lv_icmp_eq (tgt := 1206) X.1.1 X.1.2.1 dL_law_633 (by decide) (fun _ => kk μ2 _ _ R2 hW) (fun h => absurd rfl h)
/-- serve: from its place in the table to the loop's step -/
theorem lw_serve (X : zX p s m #[.ref b] meth c cL_law RL lw_tbl 4 D cy ad ret (lwA s)) (hX : va_X b L xs s s.heap) (hbl : b < s.heap.size) (R : Rel μ) (hW : zW D cy ad (lwA s) s.heap μ H locs) (hl : lv_has ls 4 [(0, .ref b), (1, .ref (ad 9)), (2, .ref (ad 0)), (3, .int (nI i))]) (hi : i + 6 ≤ L) (hL : L ≤ 3072) (hce : CE ≤ room_1.cells ∧ SL ≤ room_1.slots)
    (kk : ∀ (μ2 : mm) (H : Heap) (locs : List Loc), Rel μ2 → zW D cy ad (lwA s) s.heap μ2 H locs → W p l e room_1 s m #[.ref b] below meth c H locs CE SL Q (F0 m 1206 ls [])) : W p l e room_1 s m #[.ref b] below meth c H locs CE SL Q (F0 m 638 ls []) := by
  obtain ⟨r, μ1, μ2, f1, f2, R2⟩ := op_serve 2000 (by decide) R (w := (xs (i + 1)).toInt) (in_of _)
  refine lv_aload_n X.1.1 X.1.2.1 dL_law_638 rfl (lv_at hl 1 rfl) ?_
  refine lw_arg X.1.1 X.1.2.1 hX hbl hW.2.2 hl 1 (by omega) hL dL_law_639 dL_law_640 dL_law_641 rfl dL_law_642 dL_law_643 ?_
  refine lw_call7I (pc := 644) (n := 1) (As := [.int (iO (xs (i + 1)).toInt)]) (rest := []) X hW hl (i := 9) rfl (C4_serve l 2000 (xs (i + 1)).toInt μ f1) gL_law_X4_serve rfl (by decide +kernel) rfl ⟨by decide, by decide⟩ hce rfl (Nat.le_of_ble_eq_true rfl) dL_law_644 (fun H locs hW => ?_)
  refine lv_aload_n X.1.1 X.1.2.1 dL_law_647 rfl (lv_at hl 2 rfl) ?_
  refine lw_arg X.1.1 X.1.2.1 hX hbl hW.2.2 hl 1 (by omega) hL dL_law_648 dL_law_649 dL_law_650 rfl dL_law_651 dL_law_652 ?_
  refine lw_call1I (pc := 653) (n := 1) (As := [.int (iO (xs (i + 1)).toInt)]) (rest := [.int (iO r)]) X hW hl (i := 0) rfl (C5_serve l 2000 (xs (i + 1)).toInt μ1 f2) gL_law_X5_serve rfl (by decide +kernel) rfl ⟨by decide, by decide⟩ hce rfl (Nat.le_of_ble_eq_true rfl) dL_law_653 (fun H locs hW => ?_)
  exact lv_icmp_eq (tgt := 1206) X.1.1 X.1.2.1 dL_law_656 (by decide) (fun _ => kk μ2 _ _ R2 hW) (fun h => absurd rfl h)
/-- best: from its place in the table to the loop's step -/
theorem lw_best (X : zX p s m #[.ref b] meth c cL_law RL lw_tbl 4 D cy ad ret (lwA s)) (hX : va_X b L xs s s.heap) (hbl : b < s.heap.size) (R : Rel μ) (hW : zW D cy ad (lwA s) s.heap μ H locs) (hl : lv_has ls 4 [(0, .ref b), (1, .ref (ad 9)), (2, .ref (ad 0)), (3, .int (nI i))]) (hi : i + 6 ≤ L) (hL : L ≤ 3072) (hce : CE ≤ room_1.cells ∧ SL ≤ room_1.slots)
    (kk : ∀ (μ2 : mm) (H : Heap) (locs : List Loc), Rel μ2 → zW D cy ad (lwA s) s.heap μ2 H locs → W p l e room_1 s m #[.ref b] below meth c H locs CE SL Q (F0 m 1206 ls [])) : W p l e room_1 s m #[.ref b] below meth c H locs CE SL Q (F0 m 661 ls []) := by
  obtain ⟨r, μ1, μ2, f1, f2, R2⟩ := op_best 2000 (by decide) R (n := (xs (i + 1)).toInt) (w := (xs (i + 2)).toInt) (in_of _) (in_of _)
  refine lv_aload_n X.1.1 X.1.2.1 dL_law_661 rfl (lv_at hl 1 rfl) ?_
  refine lw_arg X.1.1 X.1.2.1 hX hbl hW.2.2 hl 1 (by omega) hL dL_law_662 dL_law_663 dL_law_664 rfl dL_law_665 dL_law_666 ?_
  refine lw_arg X.1.1 X.1.2.1 hX hbl hW.2.2 hl 2 (by omega) hL dL_law_667 dL_law_668 dL_law_669 rfl dL_law_670 dL_law_671 ?_
  refine lw_call7I (pc := 672) (n := 2) (As := [.int (iO (xs (i + 1)).toInt), .int (iO (xs (i + 2)).toInt)]) (rest := []) X hW hl (i := 9) rfl (C4_best l 2000 (xs (i + 1)).toInt (xs (i + 2)).toInt μ f1) gL_law_X4_best rfl (by decide +kernel) rfl ⟨by decide, by decide⟩ hce rfl (Nat.le_of_ble_eq_true rfl) dL_law_672 (fun H locs hW => ?_)
  refine lv_aload_n X.1.1 X.1.2.1 dL_law_675 rfl (lv_at hl 2 rfl) ?_
  refine lw_arg X.1.1 X.1.2.1 hX hbl hW.2.2 hl 1 (by omega) hL dL_law_676 dL_law_677 dL_law_678 rfl dL_law_679 dL_law_680 ?_
  refine lw_arg X.1.1 X.1.2.1 hX hbl hW.2.2 hl 2 (by omega) hL dL_law_681 dL_law_682 dL_law_683 rfl dL_law_684 dL_law_685 ?_
  refine lw_call1I (pc := 686) (n := 2) (As := [.int (iO (xs (i + 1)).toInt), .int (iO (xs (i + 2)).toInt)]) (rest := [.int (iO r)]) X hW hl (i := 0) rfl (C5_best l 2000 (xs (i + 1)).toInt (xs (i + 2)).toInt μ1 f2) gL_law_X5_best rfl (by decide +kernel) rfl ⟨by decide, by decide⟩ hce rfl (Nat.le_of_ble_eq_true rfl) dL_law_686 (fun H locs hW => ?_)
  exact lv_icmp_eq (tgt := 1206) X.1.1 X.1.2.1 dL_law_689 (by decide) (fun _ => kk μ2 _ _ R2 hW) (fun h => absurd rfl h)
/-- run: from its place in the table to the loop's step -/
theorem lw_run (X : zX p s m #[.ref b] meth c cL_law RL lw_tbl 4 D cy ad ret (lwA s)) (hX : va_X b L xs s s.heap) (hbl : b < s.heap.size) (R : Rel μ) (hW : zW D cy ad (lwA s) s.heap μ H locs) (hl : lv_has ls 4 [(0, .ref b), (1, .ref (ad 9)), (2, .ref (ad 0)), (3, .int (nI i))]) (hi : i + 6 ≤ L) (hL : L ≤ 3072) (hce : CE ≤ room_1.cells ∧ SL ≤ room_1.slots)
    (kk : ∀ (μ2 : mm) (H : Heap) (locs : List Loc), Rel μ2 → zW D cy ad (lwA s) s.heap μ2 H locs → W p l e room_1 s m #[.ref b] below meth c H locs CE SL Q (F0 m 1206 ls [])) : W p l e room_1 s m #[.ref b] below meth c H locs CE SL Q (F0 m 694 ls []) := by
  obtain ⟨r, μ1, μ2, f1, f2, R2⟩ := op_run 2000 (by decide) R (w := (xs (i + 1)).toInt) (in_of _)
  refine lv_aload_n X.1.1 X.1.2.1 dL_law_694 rfl (lv_at hl 1 rfl) ?_
  refine lw_arg X.1.1 X.1.2.1 hX hbl hW.2.2 hl 1 (by omega) hL dL_law_695 dL_law_696 dL_law_697 rfl dL_law_698 dL_law_699 ?_
  refine lw_call7I (pc := 700) (n := 1) (As := [.int (iO (xs (i + 1)).toInt)]) (rest := []) X hW hl (i := 9) rfl (C4_run l 2000 (xs (i + 1)).toInt μ f1) gL_law_X4_run rfl (by decide +kernel) rfl ⟨by decide, by decide⟩ hce rfl (Nat.le_of_ble_eq_true rfl) dL_law_700 (fun H locs hW => ?_)
  refine lv_aload_n X.1.1 X.1.2.1 dL_law_703 rfl (lv_at hl 2 rfl) ?_
  refine lw_arg X.1.1 X.1.2.1 hX hbl hW.2.2 hl 1 (by omega) hL dL_law_704 dL_law_705 dL_law_706 rfl dL_law_707 dL_law_708 ?_
  refine lw_call1I (pc := 709) (n := 1) (As := [.int (iO (xs (i + 1)).toInt)]) (rest := [.int (iO r)]) X hW hl (i := 0) rfl (C5_run l 2000 (xs (i + 1)).toInt μ1 f2) gL_law_X5_run rfl (by decide +kernel) rfl ⟨by decide, by decide⟩ hce rfl (Nat.le_of_ble_eq_true rfl) dL_law_709 (fun H locs hW => ?_)
  exact lv_icmp_eq (tgt := 1206) X.1.1 X.1.2.1 dL_law_712 (by decide) (fun _ => kk μ2 _ _ R2 hW) (fun h => absurd rfl h)
/-- stock: from its place in the table to the loop's step -/
theorem lw_stock (X : zX p s m #[.ref b] meth c cL_law RL lw_tbl 4 D cy ad ret (lwA s)) (hX : va_X b L xs s s.heap) (hbl : b < s.heap.size) (R : Rel μ) (hW : zW D cy ad (lwA s) s.heap μ H locs) (hl : lv_has ls 4 [(0, .ref b), (1, .ref (ad 9)), (2, .ref (ad 0)), (3, .int (nI i))]) (hi : i + 6 ≤ L) (hL : L ≤ 3072) (hce : CE ≤ room_1.cells ∧ SL ≤ room_1.slots)
    (kk : ∀ (μ2 : mm) (H : Heap) (locs : List Loc), Rel μ2 → zW D cy ad (lwA s) s.heap μ2 H locs → W p l e room_1 s m #[.ref b] below meth c H locs CE SL Q (F0 m 1206 ls [])) : W p l e room_1 s m #[.ref b] below meth c H locs CE SL Q (F0 m 717 ls []) := by
  obtain ⟨r, μ1, μ2, f1, f2, R2⟩ := op_stock 2000 (by decide) R (n := (xs (i + 1)).toInt) (in_of _)
  refine lv_aload_n X.1.1 X.1.2.1 dL_law_717 rfl (lv_at hl 1 rfl) ?_
  refine lw_arg X.1.1 X.1.2.1 hX hbl hW.2.2 hl 1 (by omega) hL dL_law_718 dL_law_719 dL_law_720 rfl dL_law_721 dL_law_722 ?_
  refine lw_call7I (pc := 723) (n := 1) (As := [.int (iO (xs (i + 1)).toInt)]) (rest := []) X hW hl (i := 9) rfl (C4_stock l 2000 (xs (i + 1)).toInt μ f1) gL_law_X4_stock rfl (by decide +kernel) rfl ⟨by decide, by decide⟩ hce rfl (Nat.le_of_ble_eq_true rfl) dL_law_723 (fun H locs hW => ?_)
  refine lv_aload_n X.1.1 X.1.2.1 dL_law_726 rfl (lv_at hl 2 rfl) ?_
  refine lw_arg X.1.1 X.1.2.1 hX hbl hW.2.2 hl 1 (by omega) hL dL_law_727 dL_law_728 dL_law_729 rfl dL_law_730 dL_law_731 ?_
  refine lw_call1I (pc := 732) (n := 1) (As := [.int (iO (xs (i + 1)).toInt)]) (rest := [.int (iO r)]) X hW hl (i := 0) rfl (C5_stock l 2000 (xs (i + 1)).toInt μ1 f2) gL_law_X5_stock rfl (by decide +kernel) rfl ⟨by decide, by decide⟩ hce rfl (Nat.le_of_ble_eq_true rfl) dL_law_732 (fun H locs hW => ?_)
  exact lv_icmp_eq (tgt := 1206) X.1.1 X.1.2.1 dL_law_735 (by decide) (fun _ => kk μ2 _ _ R2 hW) (fun h => absurd rfl h)
/-- borrow: from its place in the table to the loop's step -/
theorem lw_borrow (X : zX p s m #[.ref b] meth c cL_law RL lw_tbl 4 D cy ad ret (lwA s)) (hX : va_X b L xs s s.heap) (hbl : b < s.heap.size) (R : Rel μ) (hW : zW D cy ad (lwA s) s.heap μ H locs) (hl : lv_has ls 4 [(0, .ref b), (1, .ref (ad 9)), (2, .ref (ad 0)), (3, .int (nI i))]) (hi : i + 6 ≤ L) (hL : L ≤ 3072) (hce : CE ≤ room_1.cells ∧ SL ≤ room_1.slots)
    (kk : ∀ (μ2 : mm) (H : Heap) (locs : List Loc), Rel μ2 → zW D cy ad (lwA s) s.heap μ2 H locs → W p l e room_1 s m #[.ref b] below meth c H locs CE SL Q (F0 m 1206 ls [])) : W p l e room_1 s m #[.ref b] below meth c H locs CE SL Q (F0 m 740 ls []) := by
  obtain ⟨r, μ1, μ2, f1, f2, R2⟩ := op_borrow 2000 (by decide) R (p := (xs (i + 1)).toInt) (n := (xs (i + 2)).toInt) (in_of _) (in_of _)
  refine lv_aload_n X.1.1 X.1.2.1 dL_law_740 rfl (lv_at hl 1 rfl) ?_
  refine lw_arg X.1.1 X.1.2.1 hX hbl hW.2.2 hl 1 (by omega) hL dL_law_741 dL_law_742 dL_law_743 rfl dL_law_744 dL_law_745 ?_
  refine lw_arg X.1.1 X.1.2.1 hX hbl hW.2.2 hl 2 (by omega) hL dL_law_746 dL_law_747 dL_law_748 rfl dL_law_749 dL_law_750 ?_
  refine lw_call7I (pc := 751) (n := 2) (As := [.int (iO (xs (i + 1)).toInt), .int (iO (xs (i + 2)).toInt)]) (rest := []) X hW hl (i := 9) rfl (C4_borrow l 2000 (xs (i + 1)).toInt (xs (i + 2)).toInt μ f1) gL_law_X4_borrow rfl (by decide +kernel) rfl ⟨by decide, by decide⟩ hce rfl (Nat.le_of_ble_eq_true rfl) dL_law_751 (fun H locs hW => ?_)
  refine lv_aload_n X.1.1 X.1.2.1 dL_law_754 rfl (lv_at hl 2 rfl) ?_
  refine lw_arg X.1.1 X.1.2.1 hX hbl hW.2.2 hl 1 (by omega) hL dL_law_755 dL_law_756 dL_law_757 rfl dL_law_758 dL_law_759 ?_
  refine lw_arg X.1.1 X.1.2.1 hX hbl hW.2.2 hl 2 (by omega) hL dL_law_760 dL_law_761 dL_law_762 rfl dL_law_763 dL_law_764 ?_
  refine lw_call1I (pc := 765) (n := 2) (As := [.int (iO (xs (i + 1)).toInt), .int (iO (xs (i + 2)).toInt)]) (rest := [.int (iO r)]) X hW hl (i := 0) rfl (C5_borrow l 2000 (xs (i + 1)).toInt (xs (i + 2)).toInt μ1 f2) gL_law_X5_borrow rfl (by decide +kernel) rfl ⟨by decide, by decide⟩ hce rfl (Nat.le_of_ble_eq_true rfl) dL_law_765 (fun H locs hW => ?_)
  exact lv_icmp_eq (tgt := 1206) X.1.1 X.1.2.1 dL_law_768 (by decide) (fun _ => kk μ2 _ _ R2 hW) (fun h => absurd rfl h)
/-- sweep: from its place in the table to the loop's step -/
theorem lw_sweep (X : zX p s m #[.ref b] meth c cL_law RL lw_tbl 4 D cy ad ret (lwA s)) (hX : va_X b L xs s s.heap) (hbl : b < s.heap.size) (R : Rel μ) (hW : zW D cy ad (lwA s) s.heap μ H locs) (hl : lv_has ls 4 [(0, .ref b), (1, .ref (ad 9)), (2, .ref (ad 0)), (3, .int (nI i))]) (hi : i + 6 ≤ L) (hL : L ≤ 3072) (hce : CE ≤ room_1.cells ∧ SL ≤ room_1.slots)
    (kk : ∀ (μ2 : mm) (H : Heap) (locs : List Loc), Rel μ2 → zW D cy ad (lwA s) s.heap μ2 H locs → W p l e room_1 s m #[.ref b] below meth c H locs CE SL Q (F0 m 1206 ls [])) : W p l e room_1 s m #[.ref b] below meth c H locs CE SL Q (F0 m 773 ls []) := by
  obtain ⟨r, μ1, μ2, f1, f2, R2⟩ := op_sweep 2000 (by decide) R (n := (xs (i + 1)).toInt) (w := (xs (i + 2)).toInt) (in_of _) (in_of _)
  refine lv_aload_n X.1.1 X.1.2.1 dL_law_773 rfl (lv_at hl 1 rfl) ?_
  refine lw_arg X.1.1 X.1.2.1 hX hbl hW.2.2 hl 1 (by omega) hL dL_law_774 dL_law_775 dL_law_776 rfl dL_law_777 dL_law_778 ?_
  refine lw_arg X.1.1 X.1.2.1 hX hbl hW.2.2 hl 2 (by omega) hL dL_law_779 dL_law_780 dL_law_781 rfl dL_law_782 dL_law_783 ?_
  refine lw_call7I (pc := 784) (n := 2) (As := [.int (iO (xs (i + 1)).toInt), .int (iO (xs (i + 2)).toInt)]) (rest := []) X hW hl (i := 9) rfl (C4_sweep l 2000 (xs (i + 1)).toInt (xs (i + 2)).toInt μ f1) gL_law_X4_sweep rfl (by decide +kernel) rfl ⟨by decide, by decide⟩ hce rfl (Nat.le_of_ble_eq_true rfl) dL_law_784 (fun H locs hW => ?_)
  refine lv_aload_n X.1.1 X.1.2.1 dL_law_787 rfl (lv_at hl 2 rfl) ?_
  refine lw_arg X.1.1 X.1.2.1 hX hbl hW.2.2 hl 1 (by omega) hL dL_law_788 dL_law_789 dL_law_790 rfl dL_law_791 dL_law_792 ?_
  refine lw_arg X.1.1 X.1.2.1 hX hbl hW.2.2 hl 2 (by omega) hL dL_law_793 dL_law_794 dL_law_795 rfl dL_law_796 dL_law_797 ?_
  refine lw_call1I (pc := 798) (n := 2) (As := [.int (iO (xs (i + 1)).toInt), .int (iO (xs (i + 2)).toInt)]) (rest := [.int (iO r)]) X hW hl (i := 0) rfl (C5_sweep l 2000 (xs (i + 1)).toInt (xs (i + 2)).toInt μ1 f2) gL_law_X5_sweep rfl (by decide +kernel) rfl ⟨by decide, by decide⟩ hce rfl (Nat.le_of_ble_eq_true rfl) dL_law_798 (fun H locs hW => ?_)
  exact lv_icmp_eq (tgt := 1206) X.1.1 X.1.2.1 dL_law_801 (by decide) (fun _ => kk μ2 _ _ R2 hW) (fun h => absurd rfl h)
/-- grain: from its place in the table to the loop's step -/
theorem lw_grain (X : zX p s m #[.ref b] meth c cL_law RL lw_tbl 4 D cy ad ret (lwA s)) (hX : va_X b L xs s s.heap) (hbl : b < s.heap.size) (R : Rel μ) (hW : zW D cy ad (lwA s) s.heap μ H locs) (hl : lv_has ls 4 [(0, .ref b), (1, .ref (ad 9)), (2, .ref (ad 0)), (3, .int (nI i))]) (hi : i + 6 ≤ L) (hL : L ≤ 3072) (hce : CE ≤ room_1.cells ∧ SL ≤ room_1.slots)
    (kk : ∀ (μ2 : mm) (H : Heap) (locs : List Loc), Rel μ2 → zW D cy ad (lwA s) s.heap μ2 H locs → W p l e room_1 s m #[.ref b] below meth c H locs CE SL Q (F0 m 1206 ls [])) : W p l e room_1 s m #[.ref b] below meth c H locs CE SL Q (F0 m 806 ls []) := by
  obtain ⟨r, μ1, μ2, f1, f2, R2⟩ := op_grain 2000 (by decide) R (n := (xs (i + 1)).toInt) (in_of _)
  refine lv_aload_n X.1.1 X.1.2.1 dL_law_806 rfl (lv_at hl 1 rfl) ?_
  refine lw_arg X.1.1 X.1.2.1 hX hbl hW.2.2 hl 1 (by omega) hL dL_law_807 dL_law_808 dL_law_809 rfl dL_law_810 dL_law_811 ?_
  refine lw_call7I (pc := 812) (n := 1) (As := [.int (iO (xs (i + 1)).toInt)]) (rest := []) X hW hl (i := 9) rfl (C4_grain l 2000 (xs (i + 1)).toInt μ f1) gL_law_X4_grain rfl (by decide +kernel) rfl ⟨by decide, by decide⟩ hce rfl (Nat.le_of_ble_eq_true rfl) dL_law_812 (fun H locs hW => ?_)
  refine lv_aload_n X.1.1 X.1.2.1 dL_law_815 rfl (lv_at hl 2 rfl) ?_
  refine lw_arg X.1.1 X.1.2.1 hX hbl hW.2.2 hl 1 (by omega) hL dL_law_816 dL_law_817 dL_law_818 rfl dL_law_819 dL_law_820 ?_
  refine lw_call1I (pc := 821) (n := 1) (As := [.int (iO (xs (i + 1)).toInt)]) (rest := [.int (iO r)]) X hW hl (i := 0) rfl (C5_grain l 2000 (xs (i + 1)).toInt μ1 f2) gL_law_X5_grain rfl (by decide +kernel) rfl ⟨by decide, by decide⟩ hce rfl (Nat.le_of_ble_eq_true rfl) dL_law_821 (fun H locs hW => ?_)
  exact lv_icmp_eq (tgt := 1206) X.1.1 X.1.2.1 dL_law_824 (by decide) (fun _ => kk μ2 _ _ R2 hW) (fun h => absurd rfl h)
/-- shares: from its place in the table to the loop's step -/
theorem lw_shares (X : zX p s m #[.ref b] meth c cL_law RL lw_tbl 4 D cy ad ret (lwA s)) (hX : va_X b L xs s s.heap) (hbl : b < s.heap.size) (R : Rel μ) (hW : zW D cy ad (lwA s) s.heap μ H locs) (hl : lv_has ls 4 [(0, .ref b), (1, .ref (ad 9)), (2, .ref (ad 0)), (3, .int (nI i))]) (hi : i + 6 ≤ L) (hL : L ≤ 3072) (hce : CE ≤ room_1.cells ∧ SL ≤ room_1.slots)
    (kk : ∀ (μ2 : mm) (H : Heap) (locs : List Loc), Rel μ2 → zW D cy ad (lwA s) s.heap μ2 H locs → W p l e room_1 s m #[.ref b] below meth c H locs CE SL Q (F0 m 1206 ls [])) : W p l e room_1 s m #[.ref b] below meth c H locs CE SL Q (F0 m 829 ls []) := by
  obtain ⟨r, μ1, μ2, f1, f2, R2⟩ := op_shares 2000 R (w := (xs (i + 1)).toInt) (in_of _)
  refine lv_aload_n X.1.1 X.1.2.1 dL_law_829 rfl (lv_at hl 1 rfl) ?_
  refine lw_arg X.1.1 X.1.2.1 hX hbl hW.2.2 hl 1 (by omega) hL dL_law_830 dL_law_831 dL_law_832 rfl dL_law_833 dL_law_834 ?_
  refine lw_call7I (pc := 835) (n := 1) (As := [.int (iO (xs (i + 1)).toInt)]) (rest := []) X hW hl (i := 9) rfl (C4_shares l 2000 (xs (i + 1)).toInt μ f1) gL_law_X4_shares rfl (by decide +kernel) rfl ⟨by decide, by decide⟩ hce rfl (Nat.le_of_ble_eq_true rfl) dL_law_835 (fun H locs hW => ?_)
  refine lv_aload_n X.1.1 X.1.2.1 dL_law_838 rfl (lv_at hl 2 rfl) ?_
  refine lw_arg X.1.1 X.1.2.1 hX hbl hW.2.2 hl 1 (by omega) hL dL_law_839 dL_law_840 dL_law_841 rfl dL_law_842 dL_law_843 ?_
  refine lw_call1I (pc := 844) (n := 1) (As := [.int (iO (xs (i + 1)).toInt)]) (rest := [.int (iO r)]) X hW hl (i := 0) rfl (C5_shares l 2000 (xs (i + 1)).toInt μ1 f2) gL_law_X5_shares rfl (by decide +kernel) rfl ⟨by decide, by decide⟩ hce rfl (Nat.le_of_ble_eq_true rfl) dL_law_844 (fun H locs hW => ?_)
  exact lv_icmp_eq (tgt := 1206) X.1.1 X.1.2.1 dL_law_847 (by decide) (fun _ => kk μ2 _ _ R2 hW) (fun h => absurd rfl h)
/-- richest: from its place in the table to the loop's step -/
theorem lw_richest (X : zX p s m #[.ref b] meth c cL_law RL lw_tbl 4 D cy ad ret (lwA s)) (hX : va_X b L xs s s.heap) (hbl : b < s.heap.size) (R : Rel μ) (hW : zW D cy ad (lwA s) s.heap μ H locs) (hl : lv_has ls 4 [(0, .ref b), (1, .ref (ad 9)), (2, .ref (ad 0)), (3, .int (nI i))]) (hi : i + 6 ≤ L) (hL : L ≤ 3072) (hce : CE ≤ room_1.cells ∧ SL ≤ room_1.slots)
    (kk : ∀ (μ2 : mm) (H : Heap) (locs : List Loc), Rel μ2 → zW D cy ad (lwA s) s.heap μ2 H locs → W p l e room_1 s m #[.ref b] below meth c H locs CE SL Q (F0 m 1206 ls [])) : W p l e room_1 s m #[.ref b] below meth c H locs CE SL Q (F0 m 852 ls []) := by
  obtain ⟨r, f1, f2⟩ := op_richest 2000 (by decide) R  
  refine lv_aload_n X.1.1 X.1.2.1 dL_law_852 rfl (lv_at hl 1 rfl) ?_
  refine lw_call7I (pc := 853) (n := 0) (As := []) (rest := []) X hW hl (i := 9) rfl (C4_richest l 2000  μ f1) gL_law_X4_richest rfl (by decide +kernel) rfl ⟨by decide, by decide⟩ hce rfl (Nat.le_of_ble_eq_true rfl) dL_law_853 (fun H locs hW => ?_)
  refine lv_aload_n X.1.1 X.1.2.1 dL_law_856 rfl (lv_at hl 2 rfl) ?_
  refine lw_call1I (pc := 857) (n := 0) (As := []) (rest := [.int (iO r)]) X hW hl (i := 0) rfl (C5_richest l 2000  μ f2) gL_law_X5_richest rfl (by decide +kernel) rfl ⟨by decide, by decide⟩ hce rfl (Nat.le_of_ble_eq_true rfl) dL_law_857 (fun H locs hW => ?_)
  exact lv_icmp_eq (tgt := 1206) X.1.1 X.1.2.1 dL_law_860 (by decide) (fun _ => kk μ _ _ R hW) (fun h => absurd rfl h)
/-- trusted: from its place in the table to the loop's step -/
theorem lw_trusted (X : zX p s m #[.ref b] meth c cL_law RL lw_tbl 4 D cy ad ret (lwA s)) (hX : va_X b L xs s s.heap) (hbl : b < s.heap.size) (R : Rel μ) (hW : zW D cy ad (lwA s) s.heap μ H locs) (hl : lv_has ls 4 [(0, .ref b), (1, .ref (ad 9)), (2, .ref (ad 0)), (3, .int (nI i))]) (hi : i + 6 ≤ L) (hL : L ≤ 3072) (hce : CE ≤ room_1.cells ∧ SL ≤ room_1.slots)
    (kk : ∀ (μ2 : mm) (H : Heap) (locs : List Loc), Rel μ2 → zW D cy ad (lwA s) s.heap μ2 H locs → W p l e room_1 s m #[.ref b] below meth c H locs CE SL Q (F0 m 1206 ls [])) : W p l e room_1 s m #[.ref b] below meth c H locs CE SL Q (F0 m 865 ls []) := by
  obtain ⟨r, μ1, μ2, f1, f2, R2⟩ := op_trusted 2000 R (p := (xs (i + 1)).toInt) (in_of _)
  refine lv_aload_n X.1.1 X.1.2.1 dL_law_865 rfl (lv_at hl 1 rfl) ?_
  refine lw_arg X.1.1 X.1.2.1 hX hbl hW.2.2 hl 1 (by omega) hL dL_law_866 dL_law_867 dL_law_868 rfl dL_law_869 dL_law_870 ?_
  refine lw_call7I (pc := 871) (n := 1) (As := [.int (iO (xs (i + 1)).toInt)]) (rest := []) X hW hl (i := 9) rfl (C4_trusted l 2000 (xs (i + 1)).toInt μ f1) gL_law_X4_trusted rfl (by decide +kernel) rfl ⟨by decide, by decide⟩ hce rfl (Nat.le_of_ble_eq_true rfl) dL_law_871 (fun H locs hW => ?_)
  refine lv_aload_n X.1.1 X.1.2.1 dL_law_874 rfl (lv_at hl 2 rfl) ?_
  refine lw_arg X.1.1 X.1.2.1 hX hbl hW.2.2 hl 1 (by omega) hL dL_law_875 dL_law_876 dL_law_877 rfl dL_law_878 dL_law_879 ?_
  refine lw_call1I (pc := 880) (n := 1) (As := [.int (iO (xs (i + 1)).toInt)]) (rest := [.int (iO r)]) X hW hl (i := 0) rfl (C5_trusted l 2000 (xs (i + 1)).toInt μ1 f2) gL_law_X5_trusted rfl (by decide +kernel) rfl ⟨by decide, by decide⟩ hce rfl (Nat.le_of_ble_eq_true rfl) dL_law_880 (fun H locs hW => ?_)
  exact lv_icmp_eq (tgt := 1206) X.1.1 X.1.2.1 dL_law_883 (by decide) (fun _ => kk μ2 _ _ R2 hW) (fun h => absurd rfl h)
/-- worth: from its place in the table to the loop's step -/
theorem lw_worth (X : zX p s m #[.ref b] meth c cL_law RL lw_tbl 4 D cy ad ret (lwA s)) (hX : va_X b L xs s s.heap) (hbl : b < s.heap.size) (R : Rel μ) (hW : zW D cy ad (lwA s) s.heap μ H locs) (hl : lv_has ls 4 [(0, .ref b), (1, .ref (ad 9)), (2, .ref (ad 0)), (3, .int (nI i))]) (hi : i + 6 ≤ L) (hL : L ≤ 3072) (hce : CE ≤ room_1.cells ∧ SL ≤ room_1.slots)
    (kk : ∀ (μ2 : mm) (H : Heap) (locs : List Loc), Rel μ2 → zW D cy ad (lwA s) s.heap μ2 H locs → W p l e room_1 s m #[.ref b] below meth c H locs CE SL Q (F0 m 1206 ls [])) : W p l e room_1 s m #[.ref b] below meth c H locs CE SL Q (F0 m 888 ls []) := by
  obtain ⟨r, f1, f2⟩ := op_worth 2000 (by decide) R  
  refine lv_aload_n X.1.1 X.1.2.1 dL_law_888 rfl (lv_at hl 1 rfl) ?_
  refine lw_call7I (pc := 889) (n := 0) (As := []) (rest := []) X hW hl (i := 9) rfl (C4_worth l 2000  μ f1) gL_law_X4_worth rfl (by decide +kernel) rfl ⟨by decide, by decide⟩ hce rfl (Nat.le_of_ble_eq_true rfl) dL_law_889 (fun H locs hW => ?_)
  refine lv_aload_n X.1.1 X.1.2.1 dL_law_892 rfl (lv_at hl 2 rfl) ?_
  refine lw_call1I (pc := 893) (n := 0) (As := []) (rest := [.int (iO r)]) X hW hl (i := 0) rfl (C5_worth l 2000  μ f2) gL_law_X5_worth rfl (by decide +kernel) rfl ⟨by decide, by decide⟩ hce rfl (Nat.le_of_ble_eq_true rfl) dL_law_893 (fun H locs hW => ?_)
  exact lv_icmp_eq (tgt := 1206) X.1.1 X.1.2.1 dL_law_896 (by decide) (fun _ => kk μ _ _ R hW) (fun h => absurd rfl h)
/-- two: from its place in the table to the loop's step -/
theorem lw_two (X : zX p s m #[.ref b] meth c cL_law RL lw_tbl 4 D cy ad ret (lwA s)) (hX : va_X b L xs s s.heap) (hbl : b < s.heap.size) (R : Rel μ) (hW : zW D cy ad (lwA s) s.heap μ H locs) (hl : lv_has ls 4 [(0, .ref b), (1, .ref (ad 9)), (2, .ref (ad 0)), (3, .int (nI i))]) (hi : i + 6 ≤ L) (hL : L ≤ 3072) (hce : CE ≤ room_1.cells ∧ SL ≤ room_1.slots)
    (kk : ∀ (μ2 : mm) (H : Heap) (locs : List Loc), Rel μ2 → zW D cy ad (lwA s) s.heap μ2 H locs → W p l e room_1 s m #[.ref b] below meth c H locs CE SL Q (F0 m 1206 ls [])) : W p l e room_1 s m #[.ref b] below meth c H locs CE SL Q (F0 m 901 ls []) := by
  obtain ⟨r, μ1, μ2, f1, f2, R2⟩ := op_two 2000 (by decide) R (p := (xs (i + 1)).toInt) (v := (xs (i + 2)).toInt) (n := (xs (i + 3)).toInt) (in_of _) (in_of _) (in_of _)
  refine lv_aload_n X.1.1 X.1.2.1 dL_law_901 rfl (lv_at hl 1 rfl) ?_
  refine lw_arg X.1.1 X.1.2.1 hX hbl hW.2.2 hl 1 (by omega) hL dL_law_902 dL_law_903 dL_law_904 rfl dL_law_905 dL_law_906 ?_
  refine lw_arg X.1.1 X.1.2.1 hX hbl hW.2.2 hl 2 (by omega) hL dL_law_907 dL_law_908 dL_law_909 rfl dL_law_910 dL_law_911 ?_
  refine lw_arg X.1.1 X.1.2.1 hX hbl hW.2.2 hl 3 (by omega) hL dL_law_912 dL_law_913 dL_law_914 rfl dL_law_915 dL_law_916 ?_
  refine lw_call7I (pc := 917) (n := 3) (As := [.int (iO (xs (i + 1)).toInt), .int (iO (xs (i + 2)).toInt), .int (iO (xs (i + 3)).toInt)]) (rest := []) X hW hl (i := 9) rfl (C4_two l 2000 (xs (i + 1)).toInt (xs (i + 2)).toInt (xs (i + 3)).toInt μ f1) gL_law_X4_two rfl (by decide +kernel) rfl ⟨by decide, by decide⟩ hce rfl (Nat.le_of_ble_eq_true rfl) dL_law_917 (fun H locs hW => ?_)
  refine lv_aload_n X.1.1 X.1.2.1 dL_law_920 rfl (lv_at hl 2 rfl) ?_
  refine lw_arg X.1.1 X.1.2.1 hX hbl hW.2.2 hl 1 (by omega) hL dL_law_921 dL_law_922 dL_law_923 rfl dL_law_924 dL_law_925 ?_
  refine lw_arg X.1.1 X.1.2.1 hX hbl hW.2.2 hl 2 (by omega) hL dL_law_926 dL_law_927 dL_law_928 rfl dL_law_929 dL_law_930 ?_
  refine lw_arg X.1.1 X.1.2.1 hX hbl hW.2.2 hl 3 (by omega) hL dL_law_931 dL_law_932 dL_law_933 rfl dL_law_934 dL_law_935 ?_
  refine lw_call1I (pc := 936) (n := 3) (As := [.int (iO (xs (i + 1)).toInt), .int (iO (xs (i + 2)).toInt), .int (iO (xs (i + 3)).toInt)]) (rest := [.int (iO r)]) X hW hl (i := 0) rfl (C5_two l 2000 (xs (i + 1)).toInt (xs (i + 2)).toInt (xs (i + 3)).toInt μ1 f2) gL_law_X5_two rfl (by decide +kernel) rfl ⟨by decide, by decide⟩ hce rfl (Nat.le_of_ble_eq_true rfl) dL_law_936 (fun H locs hW => ?_)
  exact lv_icmp_eq (tgt := 1206) X.1.1 X.1.2.1 dL_law_939 (by decide) (fun _ => kk μ2 _ _ R2 hW) (fun h => absurd rfl h)
/-- slip: from its place in the table to the loop's step -/
theorem lw_slip (X : zX p s m #[.ref b] meth c cL_law RL lw_tbl 4 D cy ad ret (lwA s)) (hX : va_X b L xs s s.heap) (hbl : b < s.heap.size) (R : Rel μ) (hW : zW D cy ad (lwA s) s.heap μ H locs) (hl : lv_has ls 4 [(0, .ref b), (1, .ref (ad 9)), (2, .ref (ad 0)), (3, .int (nI i))]) (hi : i + 6 ≤ L) (hL : L ≤ 3072) (hce : CE ≤ room_1.cells ∧ SL ≤ room_1.slots)
    (kk : ∀ (μ2 : mm) (H : Heap) (locs : List Loc), Rel μ2 → zW D cy ad (lwA s) s.heap μ2 H locs → W p l e room_1 s m #[.ref b] below meth c H locs CE SL Q (F0 m 1206 ls [])) : W p l e room_1 s m #[.ref b] below meth c H locs CE SL Q (F0 m 944 ls []) := by
  obtain ⟨r, μ1, μ2, f1, f2, R2⟩ := op_slip 2000 (by decide) R (p := (xs (i + 1)).toInt) (n := (xs (i + 2)).toInt) (t := (xs (i + 3)).toInt) (v := (xs (i + 4)).toInt) (w := (xs (i + 5)).toInt) (in_of _) (in_of _) (in_of _) (in_of _) (in_of _)
  refine lv_aload_n X.1.1 X.1.2.1 dL_law_944 rfl (lv_at hl 1 rfl) ?_
  refine lw_arg X.1.1 X.1.2.1 hX hbl hW.2.2 hl 1 (by omega) hL dL_law_945 dL_law_946 dL_law_947 rfl dL_law_948 dL_law_949 ?_
  refine lw_arg X.1.1 X.1.2.1 hX hbl hW.2.2 hl 2 (by omega) hL dL_law_950 dL_law_951 dL_law_952 rfl dL_law_953 dL_law_954 ?_
  refine lw_arg X.1.1 X.1.2.1 hX hbl hW.2.2 hl 3 (by omega) hL dL_law_955 dL_law_956 dL_law_957 rfl dL_law_958 dL_law_959 ?_
  refine lw_arg X.1.1 X.1.2.1 hX hbl hW.2.2 hl 4 (by omega) hL dL_law_960 dL_law_961 dL_law_962 rfl dL_law_963 dL_law_964 ?_
  refine lw_arg X.1.1 X.1.2.1 hX hbl hW.2.2 hl 5 (by omega) hL dL_law_965 dL_law_966 dL_law_967 rfl dL_law_968 dL_law_969 ?_
  refine lw_call7J (pc := 970) (n := 5) (As := [.int (iO (xs (i + 1)).toInt), .int (iO (xs (i + 2)).toInt), .int (iO (xs (i + 3)).toInt), .int (iO (xs (i + 4)).toInt), .int (iO (xs (i + 5)).toInt)]) (rest := []) X hW hl (i := 9) rfl (C4_slip l 2000 (xs (i + 1)).toInt (xs (i + 2)).toInt (xs (i + 3)).toInt (xs (i + 4)).toInt (xs (i + 5)).toInt μ f1) gL_law_X4_slip rfl (by decide +kernel) rfl ⟨by decide, by decide⟩ hce rfl (Nat.le_of_ble_eq_true rfl) dL_law_970 (fun H locs hW => ?_)
  refine lv_aload_n X.1.1 X.1.2.1 dL_law_973 rfl (lv_at hl 2 rfl) ?_
  refine lw_arg X.1.1 X.1.2.1 hX hbl hW.2.2 hl 1 (by omega) hL dL_law_974 dL_law_975 dL_law_976 rfl dL_law_977 dL_law_978 ?_
  refine lw_arg X.1.1 X.1.2.1 hX hbl hW.2.2 hl 2 (by omega) hL dL_law_979 dL_law_980 dL_law_981 rfl dL_law_982 dL_law_983 ?_
  refine lw_arg X.1.1 X.1.2.1 hX hbl hW.2.2 hl 3 (by omega) hL dL_law_984 dL_law_985 dL_law_986 rfl dL_law_987 dL_law_988 ?_
  refine lw_arg X.1.1 X.1.2.1 hX hbl hW.2.2 hl 4 (by omega) hL dL_law_989 dL_law_990 dL_law_991 rfl dL_law_992 dL_law_993 ?_
  refine lw_arg X.1.1 X.1.2.1 hX hbl hW.2.2 hl 5 (by omega) hL dL_law_994 dL_law_995 dL_law_996 rfl dL_law_997 dL_law_998 ?_
  refine lw_call1J (pc := 999) (n := 5) (As := [.int (iO (xs (i + 1)).toInt), .int (iO (xs (i + 2)).toInt), .int (iO (xs (i + 3)).toInt), .int (iO (xs (i + 4)).toInt), .int (iO (xs (i + 5)).toInt)]) (rest := [.long (lO r)]) X hW hl (i := 0) rfl (C5_slip l 2000 (xs (i + 1)).toInt (xs (i + 2)).toInt (xs (i + 3)).toInt (xs (i + 4)).toInt (xs (i + 5)).toInt μ1 f2) gL_law_X5_slip rfl (by decide +kernel) rfl ⟨by decide, by decide⟩ hce rfl (Nat.le_of_ble_eq_true rfl) dL_law_999 (fun H locs hW => ?_)
  refine W.lcmp X.1.1 X.1.2.1 dL_law_1002 ?_
  exact lv_if_eq (tgt := 1206) X.1.1 X.1.2.1 dL_law_1003 (by decide) (fun _ => kk μ2 _ _ R2 hW) (fun h => absurd (by simp [lg_cmp]) h)
/-- mean: from its place in the table to the loop's step -/
theorem lw_mean (X : zX p s m #[.ref b] meth c cL_law RL lw_tbl 4 D cy ad ret (lwA s)) (hX : va_X b L xs s s.heap) (hbl : b < s.heap.size) (R : Rel μ) (hW : zW D cy ad (lwA s) s.heap μ H locs) (hl : lv_has ls 4 [(0, .ref b), (1, .ref (ad 9)), (2, .ref (ad 0)), (3, .int (nI i))]) (hi : i + 6 ≤ L) (hL : L ≤ 3072) (hce : CE ≤ room_1.cells ∧ SL ≤ room_1.slots)
    (kk : ∀ (μ2 : mm) (H : Heap) (locs : List Loc), Rel μ2 → zW D cy ad (lwA s) s.heap μ2 H locs → W p l e room_1 s m #[.ref b] below meth c H locs CE SL Q (F0 m 1206 ls [])) : W p l e room_1 s m #[.ref b] below meth c H locs CE SL Q (F0 m 1008 ls []) := by
  obtain ⟨r, μ1, μ2, f1, f2, R2⟩ := op_mean 2000 (by decide) R (w := (xs (i + 1)).toInt) (in_of _)
  refine lv_aload_n X.1.1 X.1.2.1 dL_law_1008 rfl (lv_at hl 1 rfl) ?_
  refine lw_arg X.1.1 X.1.2.1 hX hbl hW.2.2 hl 1 (by omega) hL dL_law_1009 dL_law_1010 dL_law_1011 rfl dL_law_1012 dL_law_1013 ?_
  refine lw_call7J (pc := 1014) (n := 1) (As := [.int (iO (xs (i + 1)).toInt)]) (rest := []) X hW hl (i := 9) rfl (C4_mean l 2000 (xs (i + 1)).toInt μ f1) gL_law_X4_mean rfl (by decide +kernel) rfl ⟨by decide, by decide⟩ hce rfl (Nat.le_of_ble_eq_true rfl) dL_law_1014 (fun H locs hW => ?_)
  refine lv_aload_n X.1.1 X.1.2.1 dL_law_1017 rfl (lv_at hl 2 rfl) ?_
  refine lw_arg X.1.1 X.1.2.1 hX hbl hW.2.2 hl 1 (by omega) hL dL_law_1018 dL_law_1019 dL_law_1020 rfl dL_law_1021 dL_law_1022 ?_
  refine lw_call1J (pc := 1023) (n := 1) (As := [.int (iO (xs (i + 1)).toInt)]) (rest := [.long (lO r)]) X hW hl (i := 0) rfl (C5_mean l 2000 (xs (i + 1)).toInt μ1 f2) gL_law_X5_mean rfl (by decide +kernel) rfl ⟨by decide, by decide⟩ hce rfl (Nat.le_of_ble_eq_true rfl) dL_law_1023 (fun H locs hW => ?_)
  refine W.lcmp X.1.1 X.1.2.1 dL_law_1026 ?_
  exact lv_if_eq (tgt := 1206) X.1.1 X.1.2.1 dL_law_1027 (by decide) (fun _ => kk μ2 _ _ R2 hW) (fun h => absurd (by simp [lg_cmp]) h)
/-- whatIs: from its place in the table to the loop's step -/
theorem lw_whatIs (X : zX p s m #[.ref b] meth c cL_law RL lw_tbl 4 D cy ad ret (lwA s)) (hX : va_X b L xs s s.heap) (hbl : b < s.heap.size) (R : Rel μ) (hW : zW D cy ad (lwA s) s.heap μ H locs) (hl : lv_has ls 4 [(0, .ref b), (1, .ref (ad 9)), (2, .ref (ad 0)), (3, .int (nI i))]) (hi : i + 6 ≤ L) (hL : L ≤ 3072) (hce : CE ≤ room_1.cells ∧ SL ≤ room_1.slots)
    (kk : ∀ (μ2 : mm) (H : Heap) (locs : List Loc), Rel μ2 → zW D cy ad (lwA s) s.heap μ2 H locs → W p l e room_1 s m #[.ref b] below meth c H locs CE SL Q (F0 m 1206 ls [])) : W p l e room_1 s m #[.ref b] below meth c H locs CE SL Q (F0 m 1032 ls []) := by
  obtain ⟨r, μ1, μ2, f1, f2, R2⟩ := op_whatIs 2000 (by decide) R (p := (xs (i + 1)).toInt) (w := (xs (i + 2)).toInt) (in_of _) (in_of _)
  refine lv_aload_n X.1.1 X.1.2.1 dL_law_1032 rfl (lv_at hl 1 rfl) ?_
  refine lw_arg X.1.1 X.1.2.1 hX hbl hW.2.2 hl 1 (by omega) hL dL_law_1033 dL_law_1034 dL_law_1035 rfl dL_law_1036 dL_law_1037 ?_
  refine lw_arg X.1.1 X.1.2.1 hX hbl hW.2.2 hl 2 (by omega) hL dL_law_1038 dL_law_1039 dL_law_1040 rfl dL_law_1041 dL_law_1042 ?_
  refine lw_call7I (pc := 1043) (n := 2) (As := [.int (iO (xs (i + 1)).toInt), .int (iO (xs (i + 2)).toInt)]) (rest := []) X hW hl (i := 9) rfl (C4_whatIs l 2000 (xs (i + 1)).toInt (xs (i + 2)).toInt μ f1) gL_law_X4_whatIs rfl (by decide +kernel) rfl ⟨by decide, by decide⟩ hce rfl (Nat.le_of_ble_eq_true rfl) dL_law_1043 (fun H locs hW => ?_)
  refine lv_aload_n X.1.1 X.1.2.1 dL_law_1046 rfl (lv_at hl 2 rfl) ?_
  refine lw_arg X.1.1 X.1.2.1 hX hbl hW.2.2 hl 1 (by omega) hL dL_law_1047 dL_law_1048 dL_law_1049 rfl dL_law_1050 dL_law_1051 ?_
  refine lw_arg X.1.1 X.1.2.1 hX hbl hW.2.2 hl 2 (by omega) hL dL_law_1052 dL_law_1053 dL_law_1054 rfl dL_law_1055 dL_law_1056 ?_
  refine lw_call1I (pc := 1057) (n := 2) (As := [.int (iO (xs (i + 1)).toInt), .int (iO (xs (i + 2)).toInt)]) (rest := [.int (iO r)]) X hW hl (i := 0) rfl (C5_whatIs l 2000 (xs (i + 1)).toInt (xs (i + 2)).toInt μ1 f2) gL_law_X5_whatIs rfl (by decide +kernel) rfl ⟨by decide, by decide⟩ hce rfl (Nat.le_of_ble_eq_true rfl) dL_law_1057 (fun H locs hW => ?_)
  exact lv_icmp_eq (tgt := 1206) X.1.1 X.1.2.1 dL_law_1060 (by decide) (fun _ => kk μ2 _ _ R2 hW) (fun h => absurd rfl h)
/-- row: from its place in the table to the loop's step -/
theorem lw_row (X : zX p s m #[.ref b] meth c cL_law RL lw_tbl 4 D cy ad ret (lwA s)) (hX : va_X b L xs s s.heap) (hbl : b < s.heap.size) (R : Rel μ) (hW : zW D cy ad (lwA s) s.heap μ H locs) (hl : lv_has ls 4 [(0, .ref b), (1, .ref (ad 9)), (2, .ref (ad 0)), (3, .int (nI i))]) (hi : i + 6 ≤ L) (hL : L ≤ 3072) (hce : CE ≤ room_1.cells ∧ SL ≤ room_1.slots)
    (kk : ∀ (μ2 : mm) (H : Heap) (locs : List Loc), Rel μ2 → zW D cy ad (lwA s) s.heap μ2 H locs → W p l e room_1 s m #[.ref b] below meth c H locs CE SL Q (F0 m 1206 ls [])) : W p l e room_1 s m #[.ref b] below meth c H locs CE SL Q (F0 m 1065 ls []) := by
  obtain ⟨r, μ1, μ2, f1, f2, R2⟩ := op_row 2000 R (v := (xs (i + 1)).toInt) (in_of _)
  refine lv_aload_n X.1.1 X.1.2.1 dL_law_1065 rfl (lv_at hl 1 rfl) ?_
  refine lw_arg X.1.1 X.1.2.1 hX hbl hW.2.2 hl 1 (by omega) hL dL_law_1066 dL_law_1067 dL_law_1068 rfl dL_law_1069 dL_law_1070 ?_
  refine lw_call7I (pc := 1071) (n := 1) (As := [.int (iO (xs (i + 1)).toInt)]) (rest := []) X hW hl (i := 9) rfl (C4_row l 2000 (xs (i + 1)).toInt μ f1) gL_law_X4_row rfl (by decide +kernel) rfl ⟨by decide, by decide⟩ hce rfl (Nat.le_of_ble_eq_true rfl) dL_law_1071 (fun H locs hW => ?_)
  refine lv_aload_n X.1.1 X.1.2.1 dL_law_1074 rfl (lv_at hl 2 rfl) ?_
  refine lw_arg X.1.1 X.1.2.1 hX hbl hW.2.2 hl 1 (by omega) hL dL_law_1075 dL_law_1076 dL_law_1077 rfl dL_law_1078 dL_law_1079 ?_
  refine lw_call1I (pc := 1080) (n := 1) (As := [.int (iO (xs (i + 1)).toInt)]) (rest := [.int (iO r)]) X hW hl (i := 0) rfl (C5_row l 2000 (xs (i + 1)).toInt μ1 f2) gL_law_X5_row rfl (by decide +kernel) rfl ⟨by decide, by decide⟩ hce rfl (Nat.le_of_ble_eq_true rfl) dL_law_1080 (fun H locs hW => ?_)
  exact lv_icmp_eq (tgt := 1206) X.1.1 X.1.2.1 dL_law_1083 (by decide) (fun _ => kk μ2 _ _ R2 hW) (fun h => absurd rfl h)
/-- judge: from its place in the table to the loop's step -/
theorem lw_judge (X : zX p s m #[.ref b] meth c cL_law RL lw_tbl 4 D cy ad ret (lwA s)) (hX : va_X b L xs s s.heap) (hbl : b < s.heap.size) (R : Rel μ) (hW : zW D cy ad (lwA s) s.heap μ H locs) (hl : lv_has ls 4 [(0, .ref b), (1, .ref (ad 9)), (2, .ref (ad 0)), (3, .int (nI i))]) (hi : i + 6 ≤ L) (hL : L ≤ 3072) (hce : CE ≤ room_1.cells ∧ SL ≤ room_1.slots)
    (kk : ∀ (μ2 : mm) (H : Heap) (locs : List Loc), Rel μ2 → zW D cy ad (lwA s) s.heap μ2 H locs → W p l e room_1 s m #[.ref b] below meth c H locs CE SL Q (F0 m 1206 ls [])) : W p l e room_1 s m #[.ref b] below meth c H locs CE SL Q (F0 m 1088 ls []) := by
  obtain ⟨r, μ1, μ2, f1, f2, R2⟩ := op_judge 2000 (by decide) R  
  refine lv_aload_n X.1.1 X.1.2.1 dL_law_1088 rfl (lv_at hl 1 rfl) ?_
  refine lw_call7I (pc := 1089) (n := 0) (As := []) (rest := []) X hW hl (i := 9) rfl (C4_judge l 2000  μ f1) gL_law_X4_judge rfl (by decide +kernel) rfl ⟨by decide, by decide⟩ hce rfl (Nat.le_of_ble_eq_true rfl) dL_law_1089 (fun H locs hW => ?_)
  refine lv_aload_n X.1.1 X.1.2.1 dL_law_1092 rfl (lv_at hl 2 rfl) ?_
  refine lw_call1I (pc := 1093) (n := 0) (As := []) (rest := [.int (iO r)]) X hW hl (i := 0) rfl (C5_judge l 2000  μ1 f2) gL_law_X5_judge rfl (by decide +kernel) rfl ⟨by decide, by decide⟩ hce rfl (Nat.le_of_ble_eq_true rfl) dL_law_1093 (fun H locs hW => ?_)
  exact lv_icmp_eq (tgt := 1206) X.1.1 X.1.2.1 dL_law_1096 (by decide) (fun _ => kk μ2 _ _ R2 hW) (fun h => absurd rfl h)
/-- clear: from its place in the table to the loop's step -/
theorem lw_clear (X : zX p s m #[.ref b] meth c cL_law RL lw_tbl 4 D cy ad ret (lwA s)) (hX : va_X b L xs s s.heap) (hbl : b < s.heap.size) (R : Rel μ) (hW : zW D cy ad (lwA s) s.heap μ H locs) (hl : lv_has ls 4 [(0, .ref b), (1, .ref (ad 9)), (2, .ref (ad 0)), (3, .int (nI i))]) (hi : i + 6 ≤ L) (hL : L ≤ 3072) (hce : CE ≤ room_1.cells ∧ SL ≤ room_1.slots)
    (kk : ∀ (μ2 : mm) (H : Heap) (locs : List Loc), Rel μ2 → zW D cy ad (lwA s) s.heap μ2 H locs → W p l e room_1 s m #[.ref b] below meth c H locs CE SL Q (F0 m 1206 ls [])) : W p l e room_1 s m #[.ref b] below meth c H locs CE SL Q (F0 m 1101 ls []) := by
  obtain ⟨r, μ1, μ2, f1, f2, R2⟩ := op_clear 2000 R  
  refine lv_aload_n X.1.1 X.1.2.1 dL_law_1101 rfl (lv_at hl 1 rfl) ?_
  refine lw_call7I (pc := 1102) (n := 0) (As := []) (rest := []) X hW hl (i := 9) rfl (C4_clear l 2000  μ f1) gL_law_X4_clear rfl (by decide +kernel) rfl ⟨by decide, by decide⟩ hce rfl (Nat.le_of_ble_eq_true rfl) dL_law_1102 (fun H locs hW => ?_)
  refine lv_aload_n X.1.1 X.1.2.1 dL_law_1105 rfl (lv_at hl 2 rfl) ?_
  refine lw_call1I (pc := 1106) (n := 0) (As := []) (rest := [.int (iO r)]) X hW hl (i := 0) rfl (C5_clear l 2000  μ1 f2) gL_law_X5_clear rfl (by decide +kernel) rfl ⟨by decide, by decide⟩ hce rfl (Nat.le_of_ble_eq_true rfl) dL_law_1106 (fun H locs hW => ?_)
  exact lv_icmp_eq (tgt := 1206) X.1.1 X.1.2.1 dL_law_1109 (by decide) (fun _ => kk μ2 _ _ R2 hW) (fun h => absurd rfl h)
/-- lots: from its place in the table to the loop's step -/
theorem lw_lots (X : zX p s m #[.ref b] meth c cL_law RL lw_tbl 4 D cy ad ret (lwA s)) (hX : va_X b L xs s s.heap) (hbl : b < s.heap.size) (R : Rel μ) (hW : zW D cy ad (lwA s) s.heap μ H locs) (hl : lv_has ls 4 [(0, .ref b), (1, .ref (ad 9)), (2, .ref (ad 0)), (3, .int (nI i))]) (hi : i + 6 ≤ L) (hL : L ≤ 3072) (hce : CE ≤ room_1.cells ∧ SL ≤ room_1.slots)
    (kk : ∀ (μ2 : mm) (H : Heap) (locs : List Loc), Rel μ2 → zW D cy ad (lwA s) s.heap μ2 H locs → W p l e room_1 s m #[.ref b] below meth c H locs CE SL Q (F0 m 1206 ls [])) : W p l e room_1 s m #[.ref b] below meth c H locs CE SL Q (F0 m 1114 ls []) := by
  obtain ⟨r, μ1, μ2, f1, f2, R2⟩ := op_lots 2000 (by decide) R (n := (xs (i + 1)).toInt) (z := (xs (i + 2)).toInt) (w := (xs (i + 3)).toInt) (in_of _) (in_of _)
  refine lv_aload_n X.1.1 X.1.2.1 dL_law_1114 rfl (lv_at hl 1 rfl) ?_
  refine lw_arg X.1.1 X.1.2.1 hX hbl hW.2.2 hl 1 (by omega) hL dL_law_1115 dL_law_1116 dL_law_1117 rfl dL_law_1118 dL_law_1119 ?_
  refine lw_arg X.1.1 X.1.2.1 hX hbl hW.2.2 hl 2 (by omega) hL dL_law_1120 dL_law_1121 dL_law_1122 rfl dL_law_1123 dL_law_1124 ?_
  refine lw_arg X.1.1 X.1.2.1 hX hbl hW.2.2 hl 3 (by omega) hL dL_law_1125 dL_law_1126 dL_law_1127 rfl dL_law_1128 dL_law_1129 ?_
  refine lw_call7I (pc := 1130) (n := 3) (As := [.int (iO (xs (i + 1)).toInt), .int (iO (xs (i + 2)).toInt), .int (iO (xs (i + 3)).toInt)]) (rest := []) X hW hl (i := 9) rfl (C4_lots l 2000 (xs (i + 1)).toInt (xs (i + 2)).toInt (xs (i + 3)).toInt μ f1) gL_law_X4_lots rfl (by decide +kernel) rfl ⟨by decide, by decide⟩ hce rfl (Nat.le_of_ble_eq_true rfl) dL_law_1130 (fun H locs hW => ?_)
  refine lv_aload_n X.1.1 X.1.2.1 dL_law_1133 rfl (lv_at hl 2 rfl) ?_
  refine lw_arg X.1.1 X.1.2.1 hX hbl hW.2.2 hl 1 (by omega) hL dL_law_1134 dL_law_1135 dL_law_1136 rfl dL_law_1137 dL_law_1138 ?_
  refine lw_arg X.1.1 X.1.2.1 hX hbl hW.2.2 hl 2 (by omega) hL dL_law_1139 dL_law_1140 dL_law_1141 rfl dL_law_1142 dL_law_1143 ?_
  refine lw_arg X.1.1 X.1.2.1 hX hbl hW.2.2 hl 3 (by omega) hL dL_law_1144 dL_law_1145 dL_law_1146 rfl dL_law_1147 dL_law_1148 ?_
  refine lw_call1I (pc := 1149) (n := 3) (As := [.int (iO (xs (i + 1)).toInt), .int (iO (xs (i + 2)).toInt), .int (iO (xs (i + 3)).toInt)]) (rest := [.int (iO r)]) X hW hl (i := 0) rfl (C5_lots l 2000 (xs (i + 1)).toInt (xs (i + 2)).toInt (xs (i + 3)).toInt μ1 f2) gL_law_X5_lots rfl (by decide +kernel) rfl ⟨by decide, by decide⟩ hce rfl (Nat.le_of_ble_eq_true rfl) dL_law_1149 (fun H locs hW => ?_)
  exact lv_icmp_eq (tgt := 1206) X.1.1 X.1.2.1 dL_law_1152 (by decide) (fun _ => kk μ2 _ _ R2 hW) (fun h => absurd rfl h)
/-- image: from its place in the table to the loop's step -/
theorem lw_image (X : zX p s m #[.ref b] meth c cL_law RL lw_tbl 4 D cy ad ret (lwA s)) (hX : va_X b L xs s s.heap) (hbl : b < s.heap.size) (R : Rel μ) (hW : zW D cy ad (lwA s) s.heap μ H locs) (hl : lv_has ls 4 [(0, .ref b), (1, .ref (ad 9)), (2, .ref (ad 0)), (3, .int (nI i))]) (hi : i + 6 ≤ L) (hL : L ≤ 3072) (hce : CE ≤ room_1.cells ∧ SL ≤ room_1.slots)
    (kk : ∀ (μ2 : mm) (H : Heap) (locs : List Loc), Rel μ2 → zW D cy ad (lwA s) s.heap μ2 H locs → W p l e room_1 s m #[.ref b] below meth c H locs CE SL Q (F0 m 1206 ls [])) : W p l e room_1 s m #[.ref b] below meth c H locs CE SL Q (F0 m 1157 ls []) := by
  obtain ⟨r, μ1, μ2, f1, f2, R2⟩ := op_image 2000 (by decide) R  
  refine lv_aload_n X.1.1 X.1.2.1 dL_law_1157 rfl (lv_at hl 1 rfl) ?_
  refine lw_call7I (pc := 1158) (n := 0) (As := []) (rest := []) X hW hl (i := 9) rfl (C4_image l 2000  μ f1) gL_law_X4_image rfl (by decide +kernel) rfl ⟨by decide, by decide⟩ hce rfl (Nat.le_of_ble_eq_true rfl) dL_law_1158 (fun H locs hW => ?_)
  refine lv_aload_n X.1.1 X.1.2.1 dL_law_1161 rfl (lv_at hl 2 rfl) ?_
  refine lw_call1I (pc := 1162) (n := 0) (As := []) (rest := [.int (iO r)]) X hW hl (i := 0) rfl (C5_image l 2000  μ1 f2) gL_law_X5_image rfl (by decide +kernel) rfl ⟨by decide, by decide⟩ hce rfl (Nat.le_of_ble_eq_true rfl) dL_law_1162 (fun H locs hW => ?_)
  exact lv_icmp_eq (tgt := 1206) X.1.1 X.1.2.1 dL_law_1165 (by decide) (fun _ => kk μ2 _ _ R2 hW) (fun h => absurd rfl h)
/-- on: from its place in the table to the loop's step -/
theorem lw_on (X : zX p s m #[.ref b] meth c cL_law RL lw_tbl 4 D cy ad ret (lwA s)) (hX : va_X b L xs s s.heap) (hbl : b < s.heap.size) (R : Rel μ) (hW : zW D cy ad (lwA s) s.heap μ H locs) (hl : lv_has ls 4 [(0, .ref b), (1, .ref (ad 9)), (2, .ref (ad 0)), (3, .int (nI i))]) (hi : i + 6 ≤ L) (hL : L ≤ 3072) (hce : CE ≤ room_1.cells ∧ SL ≤ room_1.slots)
    (kk : ∀ (μ2 : mm) (H : Heap) (locs : List Loc), Rel μ2 → zW D cy ad (lwA s) s.heap μ2 H locs → W p l e room_1 s m #[.ref b] below meth c H locs CE SL Q (F0 m 1206 ls [])) : W p l e room_1 s m #[.ref b] below meth c H locs CE SL Q (F0 m 1170 ls []) := by
  obtain ⟨r, μ1, μ2, f1, f2, R2⟩ := op_on 2000 (by decide) R  
  refine lv_aload_n X.1.1 X.1.2.1 dL_law_1170 rfl (lv_at hl 1 rfl) ?_
  refine lw_call7I (pc := 1171) (n := 0) (As := []) (rest := []) X hW hl (i := 9) rfl (C4_on l 2000  μ f1) gL_law_X4_on rfl (by decide +kernel) rfl ⟨by decide, by decide⟩ hce rfl (Nat.le_of_ble_eq_true rfl) dL_law_1171 (fun H locs hW => ?_)
  refine lv_aload_n X.1.1 X.1.2.1 dL_law_1174 rfl (lv_at hl 2 rfl) ?_
  refine lw_call1I (pc := 1175) (n := 0) (As := []) (rest := [.int (iO r)]) X hW hl (i := 0) rfl (C5_on l 2000  μ1 f2) gL_law_X5_on rfl (by decide +kernel) rfl ⟨by decide, by decide⟩ hce rfl (Nat.le_of_ble_eq_true rfl) dL_law_1175 (fun H locs hW => ?_)
  exact lv_icmp_eq (tgt := 1206) X.1.1 X.1.2.1 dL_law_1178 (by decide) (fun _ => kk μ2 _ _ R2 hW) (fun h => absurd rfl h)
/-- count: from its place in the table to the loop's step -/
theorem lw_count (X : zX p s m #[.ref b] meth c cL_law RL lw_tbl 4 D cy ad ret (lwA s)) (hX : va_X b L xs s s.heap) (hbl : b < s.heap.size) (R : Rel μ) (hW : zW D cy ad (lwA s) s.heap μ H locs) (hl : lv_has ls 4 [(0, .ref b), (1, .ref (ad 9)), (2, .ref (ad 0)), (3, .int (nI i))]) (hi : i + 6 ≤ L) (hL : L ≤ 3072) (hce : CE ≤ room_1.cells ∧ SL ≤ room_1.slots)
    (kk : ∀ (μ2 : mm) (H : Heap) (locs : List Loc), Rel μ2 → zW D cy ad (lwA s) s.heap μ2 H locs → W p l e room_1 s m #[.ref b] below meth c H locs CE SL Q (F0 m 1206 ls [])) : W p l e room_1 s m #[.ref b] below meth c H locs CE SL Q (F0 m 1183 ls []) := by
  obtain ⟨r, f1, f2⟩ := op_count 2000 (by decide) R (w := (xs (i + 1)).toInt) (in_of _)
  refine lv_aload_n X.1.1 X.1.2.1 dL_law_1183 rfl (lv_at hl 1 rfl) ?_
  refine lw_arg X.1.1 X.1.2.1 hX hbl hW.2.2 hl 1 (by omega) hL dL_law_1184 dL_law_1185 dL_law_1186 rfl dL_law_1187 dL_law_1188 ?_
  refine lw_call7I (pc := 1189) (n := 1) (As := [.int (iO (xs (i + 1)).toInt)]) (rest := []) X hW hl (i := 9) rfl (C4_count l 2000 (xs (i + 1)).toInt μ f1) gL_law_X4_count rfl (by decide +kernel) rfl ⟨by decide, by decide⟩ hce rfl (Nat.le_of_ble_eq_true rfl) dL_law_1189 (fun H locs hW => ?_)
  refine lv_aload_n X.1.1 X.1.2.1 dL_law_1192 rfl (lv_at hl 2 rfl) ?_
  refine lw_arg X.1.1 X.1.2.1 hX hbl hW.2.2 hl 1 (by omega) hL dL_law_1193 dL_law_1194 dL_law_1195 rfl dL_law_1196 dL_law_1197 ?_
  refine lw_call1I (pc := 1198) (n := 1) (As := [.int (iO (xs (i + 1)).toInt)]) (rest := [.int (iO r)]) X hW hl (i := 0) rfl (C5_count l 2000 (xs (i + 1)).toInt μ f2) gL_law_X5_count rfl (by decide +kernel) rfl ⟨by decide, by decide⟩ hce rfl (Nat.le_of_ble_eq_true rfl) dL_law_1198 (fun H locs hW => ?_)
  exact lv_icmp_eq (tgt := 1206) X.1.1 X.1.2.1 dL_law_1201 (by decide) (fun _ => kk μ _ _ R hW) (fun h => absurd rfl h)
end LWOPS
