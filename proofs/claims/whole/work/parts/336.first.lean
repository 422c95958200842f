theorem tb_1 {w : Cond} (j : Nat) (h : tables_1_1[j]? = some w) : w ∈ lw_tbl := List.mem_append_right _ (List.mem_append_left _ (List.mem_of_getElem? h))
theorem tb_2 {w : Cond} (j : Nat) (h : tables_1_2[j]? = some w) : w ∈ lw_tbl := List.mem_append_right _ (List.mem_append_right _ (List.mem_append_left _ (List.mem_of_getElem? h)))
theorem tb_3 {w : Cond} (j : Nat) (h : tables_1_3[j]? = some w) : w ∈ lw_tbl := List.mem_append_right _ (List.mem_append_right _ (List.mem_append_right _ (List.mem_append_left _ (List.mem_of_getElem? h))))
theorem tb_4 {w : Cond} (j : Nat) (h : tables_1_4[j]? = some w) : w ∈ lw_tbl := List.mem_append_right _ (List.mem_append_right _ (List.mem_append_right _ (List.mem_append_right _ (List.mem_append_left _ (List.mem_of_getElem? h)))))
/-! WHAT THE LAW STARTS WITH (wip/gen/startgen.py) -/
theorem lw_known {s : State} {b : Nat} (hts : ∀ w ∈ lw_tbl, w.before #[Value.ref b] s = true) : ∃ (D : va_G) (cy : ClassId × ClassId), va_K D vwCl (tyL cy) s := by
  obtain ⟨c0, i0, k0⟩ := u_known (C := RX1) (T := TX1) (N := 6) (n := 6) hts in_X1 (hts (.instantiable RX1 6) ((in_wsL_law_r1 _ (List.mem_of_getElem? (i := 13) rfl)).1))
  obtain ⟨c1, i1, k1⟩ := u_known (C := RX2) (T := TX2) (N := 8) (n := 8) hts in_X2 (hts (.instantiable RX2 8) ((in_wsL_law_r1 _ (List.mem_of_getElem? (i := 19) rfl)).1))
  obtain ⟨c2, i2, k2⟩ := u_known (C := RX3) (T := TX3) (N := 2) (n := 2) hts in_X3 (hts (.instantiable RX3 2) ((in_wsL_law_r1 _ (List.mem_of_getElem? (i := 23) rfl)).1))
  obtain ⟨c3, i3, k3⟩ := u_known (C := RX4) (T := TX4) (N := 11) (n := 11) hts in_X4 (hts (.instantiable RX4 11) ((in_wsL_law_r1 _ (List.mem_of_getElem? (i := 1) rfl)).1))
  obtain ⟨c4, i4, k4⟩ := u_known (C := RX5) (T := TX5) (N := 13) (n := 13) hts in_X5 (hts (.instantiable RX5 13) ((in_wsL_law_r1 _ (List.mem_of_getElem? (i := 4) rfl)).1))
  obtain ⟨a1, ka1, ca1, f1, g1, h1⟩ := Cond.arrayClass_spec (hts (.arrayClass .int) ((in_wsL_law_r2 _ (List.mem_of_getElem? (i := 2) rfl)).1))
  obtain ⟨ca2, a2, ka2, f2, -, g2, h2, j2⟩ := Cond.arrayOver_spec (hts (.arrayOver (.object "GritIsIssued$Person")) (tb_1 29 rfl))
  refine ⟨(fun k => if k = 0 then c0 else if k = 1 then c1 else if k = 2 then c2 else if k = 3 then c3 else c4, fun k => if k = 0 then i0 else if k = 1 then i1 else if k = 2 then i2 else if k = 3 then i3 else i4), (a1, a2), ?_, ?_⟩
  · intro k q hq
    match k, hq with
    | 0, hq => cases hq; exact k0
    | 1, hq => cases hq; exact k1
    | 2, hq => cases hq; exact k2
    | 3, hq => cases hq; exact k3
    | 4, hq => cases hq; exact k4
    | k + 5, hq => simp [vwCl] at hq
  · intro k q hq
    match k, hq with
    | 0, hq => cases hq; exact ⟨fun N z => ⟨fun k h => (by cases h), ka1, g1, ca1, h1⟩, f1⟩
    | 1, hq => cases hq; exact ⟨fun N z => ⟨fun k h => (by cases h), ka2, g2, ca2, h2⟩, ka2, ca2, g2, h2, f2, j2⟩
    | k + 2, hq => simp [tyL] at hq
theorem lw_kE {s : State} {b : Nat} (hts : ∀ w ∈ lw_tbl, w.before #[Value.ref b] s = true) : kE s :=
  ⟨va_AO.of (A := #[Value.ref b]) (hts (.arrayOver (.object "GritIsIssued$Person")) (tb_1 29 rfl)), va_Nw.of rfl (hts (.methodLinkNest RX1 17 yX2_init "GritIsIssued") (tb_1 31 rfl)), va_Nw.of rfl (hts (.methodLinkNest RX4 24 yX2_init "GritIsIssued") (tb_1 99 rfl)), va_Nw.of rfl (hts (.methodLinkNest RX4 31 yX3_init "GritIsIssued") (tb_1 102 rfl))⟩
def tmS (i : Nat) : Term := .string "GritIsIssued$Text" ([50, 52, 54, 56, 58, 23].getD i 0)
def flS : List Cond := flatC (Jvm.Cond.and given_1 narrow_1)
def flL : List Cond := [(Jvm.Cond.count (1 : Nat)), (Jvm.Cond.isRef (Jvm.Term.arg (0 : Nat))), (Jvm.Cond.arrayOf (Jvm.Term.arg (0 : Nat)) Jvm.ClassFile.FieldType.int), (Jvm.Cond.le (Jvm.Term.length (Jvm.Term.arg (0 : Nat))) (Jvm.Term.int (3072 : Int32))), (Jvm.Cond.eq (Jvm.Term.static "java/lang/String" "COMPACT_STRINGS" "Z") (Jvm.Term.int (1 : Int32))), (Jvm.Cond.isRef (Jvm.Term.static "jdk/internal/util/Preconditions" "SIOOBE_FORMATTER" "Ljava/util/function/BiFunction;")), (Jvm.Cond.eq (Jvm.Term.static "java/lang/StringUTF16" "$assertionsDisabled" "Z") (Jvm.Term.int (1 : Int32))), (Jvm.Cond.eq (Jvm.Term.static "java/lang/StringUTF16" "HI_BYTE_SHIFT" "I") (Jvm.Term.int (0 : Int32))), (Jvm.Cond.eq (Jvm.Term.static "java/lang/StringUTF16" "LO_BYTE_SHIFT" "I") (Jvm.Term.int (8 : Int32))), (Jvm.Cond.exactly (Jvm.Term.string "GritIsIssued$Text" (50 : Nat)) "java/lang/String"), (Jvm.Cond.eq (Jvm.Term.field (Jvm.Term.string "GritIsIssued$Text" (50 : Nat)) "java/lang/String" "coder" "B") (Jvm.Term.int (0 : Int32))), (Jvm.Cond.arrayOf (Jvm.Term.field (Jvm.Term.string "GritIsIssued$Text" (50 : Nat)) "java/lang/String" "value" "[B") Jvm.ClassFile.FieldType.byte), (Jvm.Cond.eq (Jvm.Term.length (Jvm.Term.field (Jvm.Term.string "GritIsIssued$Text" (50 : Nat)) "java/lang/String" "value" "[B")) (Jvm.Term.int (5 : Int32))), (Jvm.Cond.eq (Jvm.Term.elem (Jvm.Term.field (Jvm.Term.string "GritIsIssued$Text" (50 : Nat)) "java/lang/String" "value" "[B") (Jvm.Term.int (0 : Int32))) (Jvm.Term.int (107 : Int32))), (Jvm.Cond.eq (Jvm.Term.elem (Jvm.Term.field (Jvm.Term.string "GritIsIssued$Text" (50 : Nat)) "java/lang/String" "value" "[B") (Jvm.Term.int (1 : Int32))) (Jvm.Term.int (48 : Int32))), (Jvm.Cond.eq (Jvm.Term.elem (Jvm.Term.field (Jvm.Term.string "GritIsIssued$Text" (50 : Nat)) "java/lang/String" "value" "[B") (Jvm.Term.int (2 : Int32))) (Jvm.Term.int (48 : Int32))), (Jvm.Cond.eq (Jvm.Term.elem (Jvm.Term.field (Jvm.Term.string "GritIsIssued$Text" (50 : Nat)) "java/lang/String" "value" "[B") (Jvm.Term.int (3 : Int32))) (Jvm.Term.int (48 : Int32))), (Jvm.Cond.eq (Jvm.Term.elem (Jvm.Term.field (Jvm.Term.string "GritIsIssued$Text" (50 : Nat)) "java/lang/String" "value" "[B") (Jvm.Term.int (4 : Int32))) (Jvm.Term.int (59 : Int32))), (Jvm.Cond.exactly (Jvm.Term.string "GritIsIssued$Text" (52 : Nat)) "java/lang/String"), (Jvm.Cond.eq (Jvm.Term.field (Jvm.Term.string "GritIsIssued$Text" (52 : Nat)) "java/lang/String" "coder" "B") (Jvm.Term.int (0 : Int32))), (Jvm.Cond.arrayOf (Jvm.Term.field (Jvm.Term.string "GritIsIssued$Text" (52 : Nat)) "java/lang/String" "value" "[B") Jvm.ClassFile.FieldType.byte), (Jvm.Cond.eq (Jvm.Term.length (Jvm.Term.field (Jvm.Term.string "GritIsIssued$Text" (52 : Nat)) "java/lang/String" "value" "[B")) (Jvm.Term.int (4 : Int32))), (Jvm.Cond.eq (Jvm.Term.elem (Jvm.Term.field (Jvm.Term.string "GritIsIssued$Text" (52 : Nat)) "java/lang/String" "value" "[B") (Jvm.Term.int (0 : Int32))) (Jvm.Term.int (48 : Int32))), (Jvm.Cond.eq (Jvm.Term.elem (Jvm.Term.field (Jvm.Term.string "GritIsIssued$Text" (52 : Nat)) "java/lang/String" "value" "[B") (Jvm.Term.int (1 : Int32))) (Jvm.Term.int (48 : Int32))), (Jvm.Cond.eq (Jvm.Term.elem (Jvm.Term.field (Jvm.Term.string "GritIsIssued$Text" (52 : Nat)) "java/lang/String" "value" "[B") (Jvm.Term.int (2 : Int32))) (Jvm.Term.int (48 : Int32))), (Jvm.Cond.eq (Jvm.Term.elem (Jvm.Term.field (Jvm.Term.string "GritIsIssued$Text" (52 : Nat)) "java/lang/String" "value" "[B") (Jvm.Term.int (3 : Int32))) (Jvm.Term.int (59 : Int32))), (Jvm.Cond.not (Jvm.Cond.eq (Jvm.Term.string "GritIsIssued$Text" (50 : Nat)) (Jvm.Term.string "GritIsIssued$Text" (52 : Nat)))), (Jvm.Cond.exactly (Jvm.Term.string "GritIsIssued$Text" (54 : Nat)) "java/lang/String"), (Jvm.Cond.eq (Jvm.Term.field (Jvm.Term.string "GritIsIssued$Text" (54 : Nat)) "java/lang/String" "coder" "B") (Jvm.Term.int (0 : Int32))), (Jvm.Cond.arrayOf (Jvm.Term.field (Jvm.Term.string "GritIsIssued$Text" (54 : Nat)) "java/lang/String" "value" "[B") Jvm.ClassFile.FieldType.byte), (Jvm.Cond.eq (Jvm.Term.length (Jvm.Term.field (Jvm.Term.string "GritIsIssued$Text" (54 : Nat)) "java/lang/String" "value" "[B")) (Jvm.Term.int (2 : Int32))), (Jvm.Cond.eq (Jvm.Term.elem (Jvm.Term.field (Jvm.Term.string "GritIsIssued$Text" (54 : Nat)) "java/lang/String" "value" "[B") (Jvm.Term.int (0 : Int32))) (Jvm.Term.int (48 : Int32))), (Jvm.Cond.eq (Jvm.Term.elem (Jvm.Term.field (Jvm.Term.string "GritIsIssued$Text" (54 : Nat)) "java/lang/String" "value" "[B") (Jvm.Term.int (1 : Int32))) (Jvm.Term.int (59 : Int32))), (Jvm.Cond.not (Jvm.Cond.eq (Jvm.Term.string "GritIsIssued$Text" (50 : Nat)) (Jvm.Term.string "GritIsIssued$Text" (54 : Nat)))), (Jvm.Cond.not (Jvm.Cond.eq (Jvm.Term.string "GritIsIssued$Text" (52 : Nat)) (Jvm.Term.string "GritIsIssued$Text" (54 : Nat)))), (Jvm.Cond.exactly (Jvm.Term.string "GritIsIssued$Text" (56 : Nat)) "java/lang/String"), (Jvm.Cond.eq (Jvm.Term.field (Jvm.Term.string "GritIsIssued$Text" (56 : Nat)) "java/lang/String" "coder" "B") (Jvm.Term.int (0 : Int32))), (Jvm.Cond.arrayOf (Jvm.Term.field (Jvm.Term.string "GritIsIssued$Text" (56 : Nat)) "java/lang/String" "value" "[B") Jvm.ClassFile.FieldType.byte), (Jvm.Cond.eq (Jvm.Term.length (Jvm.Term.field (Jvm.Term.string "GritIsIssued$Text" (56 : Nat)) "java/lang/String" "value" "[B")) (Jvm.Term.int (3 : Int32))), (Jvm.Cond.eq (Jvm.Term.elem (Jvm.Term.field (Jvm.Term.string "GritIsIssued$Text" (56 : Nat)) "java/lang/String" "value" "[B") (Jvm.Term.int (0 : Int32))) (Jvm.Term.int (48 : Int32))), (Jvm.Cond.eq (Jvm.Term.elem (Jvm.Term.field (Jvm.Term.string "GritIsIssued$Text" (56 : Nat)) "java/lang/String" "value" "[B") (Jvm.Term.int (1 : Int32))) (Jvm.Term.int (48 : Int32))), (Jvm.Cond.eq (Jvm.Term.elem (Jvm.Term.field (Jvm.Term.string "GritIsIssued$Text" (56 : Nat)) "java/lang/String" "value" "[B") (Jvm.Term.int (2 : Int32))) (Jvm.Term.int (59 : Int32))), (Jvm.Cond.not (Jvm.Cond.eq (Jvm.Term.string "GritIsIssued$Text" (50 : Nat)) (Jvm.Term.string "GritIsIssued$Text" (56 : Nat)))), (Jvm.Cond.not (Jvm.Cond.eq (Jvm.Term.string "GritIsIssued$Text" (52 : Nat)) (Jvm.Term.string "GritIsIssued$Text" (56 : Nat)))), (Jvm.Cond.not (Jvm.Cond.eq (Jvm.Term.string "GritIsIssued$Text" (54 : Nat)) (Jvm.Term.string "GritIsIssued$Text" (56 : Nat)))), (Jvm.Cond.exactly (Jvm.Term.string "GritIsIssued$Text" (58 : Nat)) "java/lang/String"), (Jvm.Cond.eq (Jvm.Term.field (Jvm.Term.string "GritIsIssued$Text" (58 : Nat)) "java/lang/String" "coder" "B") (Jvm.Term.int (0 : Int32))), (Jvm.Cond.arrayOf (Jvm.Term.field (Jvm.Term.string "GritIsIssued$Text" (58 : Nat)) "java/lang/String" "value" "[B") Jvm.ClassFile.FieldType.byte), (Jvm.Cond.eq (Jvm.Term.length (Jvm.Term.field (Jvm.Term.string "GritIsIssued$Text" (58 : Nat)) "java/lang/String" "value" "[B")) (Jvm.Term.int (0 : Int32))), (Jvm.Cond.not (Jvm.Cond.eq (Jvm.Term.string "GritIsIssued$Text" (50 : Nat)) (Jvm.Term.string "GritIsIssued$Text" (58 : Nat)))), (Jvm.Cond.not (Jvm.Cond.eq (Jvm.Term.string "GritIsIssued$Text" (52 : Nat)) (Jvm.Term.string "GritIsIssued$Text" (58 : Nat)))), (Jvm.Cond.not (Jvm.Cond.eq (Jvm.Term.string "GritIsIssued$Text" (54 : Nat)) (Jvm.Term.string "GritIsIssued$Text" (58 : Nat)))), (Jvm.Cond.not (Jvm.Cond.eq (Jvm.Term.string "GritIsIssued$Text" (56 : Nat)) (Jvm.Term.string "GritIsIssued$Text" (58 : Nat)))), (Jvm.Cond.exactly (Jvm.Term.string "GritIsIssued$Text" (23 : Nat)) "java/lang/String"), (Jvm.Cond.eq (Jvm.Term.field (Jvm.Term.string "GritIsIssued$Text" (23 : Nat)) "java/lang/String" "coder" "B") (Jvm.Term.int (0 : Int32))), (Jvm.Cond.arrayOf (Jvm.Term.field (Jvm.Term.string "GritIsIssued$Text" (23 : Nat)) "java/lang/String" "value" "[B") Jvm.ClassFile.FieldType.byte), (Jvm.Cond.eq (Jvm.Term.length (Jvm.Term.field (Jvm.Term.string "GritIsIssued$Text" (23 : Nat)) "java/lang/String" "value" "[B")) (Jvm.Term.int (6 : Int32))), (Jvm.Cond.eq (Jvm.Term.elem (Jvm.Term.field (Jvm.Term.string "GritIsIssued$Text" (23 : Nat)) "java/lang/String" "value" "[B") (Jvm.Term.int (0 : Int32))) (Jvm.Term.int (99 : Int32))), (Jvm.Cond.eq (Jvm.Term.elem (Jvm.Term.field (Jvm.Term.string "GritIsIssued$Text" (23 : Nat)) "java/lang/String" "value" "[B") (Jvm.Term.int (1 : Int32))) (Jvm.Term.int (109 : Int32))), (Jvm.Cond.eq (Jvm.Term.elem (Jvm.Term.field (Jvm.Term.string "GritIsIssued$Text" (23 : Nat)) "java/lang/String" "value" "[B") (Jvm.Term.int (2 : Int32))) (Jvm.Term.int (104 : Int32))), (Jvm.Cond.eq (Jvm.Term.elem (Jvm.Term.field (Jvm.Term.string "GritIsIssued$Text" (23 : Nat)) "java/lang/String" "value" "[B") (Jvm.Term.int (3 : Int32))) (Jvm.Term.int (116 : Int32))), (Jvm.Cond.eq (Jvm.Term.elem (Jvm.Term.field (Jvm.Term.string "GritIsIssued$Text" (23 : Nat)) "java/lang/String" "value" "[B") (Jvm.Term.int (4 : Int32))) (Jvm.Term.int (100 : Int32))), (Jvm.Cond.eq (Jvm.Term.elem (Jvm.Term.field (Jvm.Term.string "GritIsIssued$Text" (23 : Nat)) "java/lang/String" "value" "[B") (Jvm.Term.int (5 : Int32))) (Jvm.Term.int (103 : Int32))), (Jvm.Cond.not (Jvm.Cond.eq (Jvm.Term.string "GritIsIssued$Text" (50 : Nat)) (Jvm.Term.string "GritIsIssued$Text" (23 : Nat)))), (Jvm.Cond.not (Jvm.Cond.eq (Jvm.Term.string "GritIsIssued$Text" (52 : Nat)) (Jvm.Term.string "GritIsIssued$Text" (23 : Nat)))), (Jvm.Cond.not (Jvm.Cond.eq (Jvm.Term.string "GritIsIssued$Text" (54 : Nat)) (Jvm.Term.string "GritIsIssued$Text" (23 : Nat)))), (Jvm.Cond.not (Jvm.Cond.eq (Jvm.Term.string "GritIsIssued$Text" (56 : Nat)) (Jvm.Term.string "GritIsIssued$Text" (23 : Nat)))), (Jvm.Cond.not (Jvm.Cond.eq (Jvm.Term.string "GritIsIssued$Text" (58 : Nat)) (Jvm.Term.string "GritIsIssued$Text" (23 : Nat)))), (Jvm.Cond.exactly (Jvm.Term.string "GritIsIssued" (212 : Nat)) "java/lang/String"), (Jvm.Cond.eq (Jvm.Term.field (Jvm.Term.string "GritIsIssued" (212 : Nat)) "java/lang/String" "coder" "B") (Jvm.Term.int (0 : Int32))), (Jvm.Cond.arrayOf (Jvm.Term.field (Jvm.Term.string "GritIsIssued" (212 : Nat)) "java/lang/String" "value" "[B") Jvm.ClassFile.FieldType.byte), (Jvm.Cond.eq (Jvm.Term.length (Jvm.Term.field (Jvm.Term.string "GritIsIssued" (212 : Nat)) "java/lang/String" "value" "[B")) (Jvm.Term.int (6 : Int32))), (Jvm.Cond.eq (Jvm.Term.elem (Jvm.Term.field (Jvm.Term.string "GritIsIssued" (212 : Nat)) "java/lang/String" "value" "[B") (Jvm.Term.int (0 : Int32))) (Jvm.Term.int (99 : Int32))), (Jvm.Cond.eq (Jvm.Term.elem (Jvm.Term.field (Jvm.Term.string "GritIsIssued" (212 : Nat)) "java/lang/String" "value" "[B") (Jvm.Term.int (1 : Int32))) (Jvm.Term.int (109 : Int32))), (Jvm.Cond.eq (Jvm.Term.elem (Jvm.Term.field (Jvm.Term.string "GritIsIssued" (212 : Nat)) "java/lang/String" "value" "[B") (Jvm.Term.int (2 : Int32))) (Jvm.Term.int (104 : Int32))), (Jvm.Cond.eq (Jvm.Term.elem (Jvm.Term.field (Jvm.Term.string "GritIsIssued" (212 : Nat)) "java/lang/String" "value" "[B") (Jvm.Term.int (3 : Int32))) (Jvm.Term.int (116 : Int32))), (Jvm.Cond.eq (Jvm.Term.elem (Jvm.Term.field (Jvm.Term.string "GritIsIssued" (212 : Nat)) "java/lang/String" "value" "[B") (Jvm.Term.int (4 : Int32))) (Jvm.Term.int (100 : Int32))), (Jvm.Cond.eq (Jvm.Term.elem (Jvm.Term.field (Jvm.Term.string "GritIsIssued" (212 : Nat)) "java/lang/String" "value" "[B") (Jvm.Term.int (5 : Int32))) (Jvm.Term.int (103 : Int32))), (Jvm.Cond.not (Jvm.Cond.eq (Jvm.Term.string "GritIsIssued$Text" (50 : Nat)) (Jvm.Term.string "GritIsIssued" (212 : Nat)))), (Jvm.Cond.not (Jvm.Cond.eq (Jvm.Term.string "GritIsIssued$Text" (52 : Nat)) (Jvm.Term.string "GritIsIssued" (212 : Nat)))), (Jvm.Cond.not (Jvm.Cond.eq (Jvm.Term.string "GritIsIssued$Text" (54 : Nat)) (Jvm.Term.string "GritIsIssued" (212 : Nat)))), (Jvm.Cond.not (Jvm.Cond.eq (Jvm.Term.string "GritIsIssued$Text" (56 : Nat)) (Jvm.Term.string "GritIsIssued" (212 : Nat)))), (Jvm.Cond.not (Jvm.Cond.eq (Jvm.Term.string "GritIsIssued$Text" (58 : Nat)) (Jvm.Term.string "GritIsIssued" (212 : Nat)))), (Jvm.Cond.eq (Jvm.Term.string "GritIsIssued$Text" (23 : Nat)) (Jvm.Term.string "GritIsIssued" (212 : Nat)))]
set_option maxRecDepth 100000 in
theorem flS_L : flS = flL := rfl
theorem fl_ {w : Cond} (k : Nat) (h : flL[k]? = some w) : w ∈ flL := List.mem_of_getElem? h
theorem flS_ex : ∀ i : Nat, i < 6 → Cond.exactly (tmS i) "java/lang/String" ∈ flL
  | 0, _ => fl_ 9 rfl
  | 1, _ => fl_ 18 rfl
  | 2, _ => fl_ 27 rfl
  | 3, _ => fl_ 35 rfl
  | 4, _ => fl_ 45 rfl
  | 5, _ => fl_ 53 rfl
  | n + 6, h => absurd h (by omega)
theorem flS_co : ∀ i : Nat, i < 6 → Cond.eq (.field (tmS i) "java/lang/String" "coder" "B") (.int 0) ∈ flL
  | 0, _ => fl_ 10 rfl
  | 1, _ => fl_ 19 rfl
  | 2, _ => fl_ 28 rfl
  | 3, _ => fl_ 36 rfl
  | 4, _ => fl_ 46 rfl
  | 5, _ => fl_ 54 rfl
  | n + 6, h => absurd h (by omega)
theorem flS_ar : ∀ i : Nat, i < 6 → Cond.arrayOf (.field (tmS i) "java/lang/String" "value" "[B") .byte ∈ flL
  | 0, _ => fl_ 11 rfl
  | 1, _ => fl_ 20 rfl
  | 2, _ => fl_ 29 rfl
  | 3, _ => fl_ 37 rfl
  | 4, _ => fl_ 47 rfl
  | 5, _ => fl_ 55 rfl
  | n + 6, h => absurd h (by omega)
theorem flS_le : ∀ i : Nat, i < 6 → Cond.eq (.length (.field (tmS i) "java/lang/String" "value" "[B")) (.int (Int32.ofNat (lenS.getD i 0))) ∈ flL
  | 0, _ => fl_ 12 rfl
  | 1, _ => fl_ 21 rfl
  | 2, _ => fl_ 30 rfl
  | 3, _ => fl_ 38 rfl
  | 4, _ => fl_ 48 rfl
  | 5, _ => fl_ 56 rfl
  | n + 6, h => absurd h (by omega)
theorem flS_el_0 : ∀ j : Nat, j < 5 → Cond.eq (.elem (.field (tmS 0) "java/lang/String" "value" "[B") (.int (Int32.ofNat j))) (.int ((bytS.getD 0 []).getD j 0)) ∈ flL
  | 0, _ => fl_ 13 rfl
  | 1, _ => fl_ 14 rfl
  | 2, _ => fl_ 15 rfl
  | 3, _ => fl_ 16 rfl
  | 4, _ => fl_ 17 rfl
  | n + 5, h => absurd h (by omega)
theorem flS_el_1 : ∀ j : Nat, j < 4 → Cond.eq (.elem (.field (tmS 1) "java/lang/String" "value" "[B") (.int (Int32.ofNat j))) (.int ((bytS.getD 1 []).getD j 0)) ∈ flL
  | 0, _ => fl_ 22 rfl
  | 1, _ => fl_ 23 rfl
  | 2, _ => fl_ 24 rfl
  | 3, _ => fl_ 25 rfl
  | n + 4, h => absurd h (by omega)
theorem flS_el_2 : ∀ j : Nat, j < 2 → Cond.eq (.elem (.field (tmS 2) "java/lang/String" "value" "[B") (.int (Int32.ofNat j))) (.int ((bytS.getD 2 []).getD j 0)) ∈ flL
  | 0, _ => fl_ 31 rfl
  | 1, _ => fl_ 32 rfl
  | n + 2, h => absurd h (by omega)
theorem flS_el_3 : ∀ j : Nat, j < 3 → Cond.eq (.elem (.field (tmS 3) "java/lang/String" "value" "[B") (.int (Int32.ofNat j))) (.int ((bytS.getD 3 []).getD j 0)) ∈ flL
  | 0, _ => fl_ 39 rfl
  | 1, _ => fl_ 40 rfl
  | 2, _ => fl_ 41 rfl
  | n + 3, h => absurd h (by omega)
theorem flS_el_4 : ∀ j : Nat, j < 0 → Cond.eq (.elem (.field (tmS 4) "java/lang/String" "value" "[B") (.int (Int32.ofNat j))) (.int ((bytS.getD 4 []).getD j 0)) ∈ flL

  | n + 0, h => absurd h (by omega)
theorem flS_el_5 : ∀ j : Nat, j < 6 → Cond.eq (.elem (.field (tmS 5) "java/lang/String" "value" "[B") (.int (Int32.ofNat j))) (.int ((bytS.getD 5 []).getD j 0)) ∈ flL
  | 0, _ => fl_ 57 rfl
  | 1, _ => fl_ 58 rfl
  | 2, _ => fl_ 59 rfl
  | 3, _ => fl_ 60 rfl
  | 4, _ => fl_ 61 rfl
  | 5, _ => fl_ 62 rfl
  | n + 6, h => absurd h (by omega)
theorem flS_el : ∀ i : Nat, i < 6 → ∀ j : Nat, j < lenS.getD i 0 → Cond.eq (.elem (.field (tmS i) "java/lang/String" "value" "[B") (.int (Int32.ofNat j))) (.int ((bytS.getD i []).getD j 0)) ∈ flL
  | 0, _ => fun j h => flS_el_0 j h
  | 1, _ => fun j h => flS_el_1 j h
  | 2, _ => fun j h => flS_el_2 j h
  | 3, _ => fun j h => flS_el_3 j h
  | 4, _ => fun j h => flS_el_4 j h
  | 5, _ => fun j h => flS_el_5 j h
  | n + 6, h => absurd h (by omega)
theorem flS_ne_0 : ∀ j : Nat, j < 6 → 0 ≠ j → Cond.not (Cond.eq (tmS 0) (tmS j)) ∈ flL ∨ Cond.not (Cond.eq (tmS j) (tmS 0)) ∈ flL
  | 0, _ => fun h => absurd rfl h
  | 1, _ => fun _ => Or.inl (fl_ 26 rfl)
  | 2, _ => fun _ => Or.inl (fl_ 33 rfl)
  | 3, _ => fun _ => Or.inl (fl_ 42 rfl)
  | 4, _ => fun _ => Or.inl (fl_ 49 rfl)
  | 5, _ => fun _ => Or.inl (fl_ 63 rfl)
  | n + 6, h => absurd h (by omega)
theorem flS_ne_1 : ∀ j : Nat, j < 6 → 1 ≠ j → Cond.not (Cond.eq (tmS 1) (tmS j)) ∈ flL ∨ Cond.not (Cond.eq (tmS j) (tmS 1)) ∈ flL
  | 0, _ => fun _ => Or.inr (fl_ 26 rfl)
  | 1, _ => fun h => absurd rfl h
  | 2, _ => fun _ => Or.inl (fl_ 34 rfl)
  | 3, _ => fun _ => Or.inl (fl_ 43 rfl)
  | 4, _ => fun _ => Or.inl (fl_ 50 rfl)
  | 5, _ => fun _ => Or.inl (fl_ 64 rfl)
  | n + 6, h => absurd h (by omega)
theorem flS_ne_2 : ∀ j : Nat, j < 6 → 2 ≠ j → Cond.not (Cond.eq (tmS 2) (tmS j)) ∈ flL ∨ Cond.not (Cond.eq (tmS j) (tmS 2)) ∈ flL
  | 0, _ => fun _ => Or.inr (fl_ 33 rfl)
  | 1, _ => fun _ => Or.inr (fl_ 34 rfl)
  | 2, _ => fun h => absurd rfl h
  | 3, _ => fun _ => Or.inl (fl_ 44 rfl)
  | 4, _ => fun _ => Or.inl (fl_ 51 rfl)
  | 5, _ => fun _ => Or.inl (fl_ 65 rfl)
  | n + 6, h => absurd h (by omega)
theorem flS_ne_3 : ∀ j : Nat, j < 6 → 3 ≠ j → Cond.not (Cond.eq (tmS 3) (tmS j)) ∈ flL ∨ Cond.not (Cond.eq (tmS j) (tmS 3)) ∈ flL
  | 0, _ => fun _ => Or.inr (fl_ 42 rfl)
  | 1, _ => fun _ => Or.inr (fl_ 43 rfl)
  | 2, _ => fun _ => Or.inr (fl_ 44 rfl)
  | 3, _ => fun h => absurd rfl h
  | 4, _ => fun _ => Or.inl (fl_ 52 rfl)
  | 5, _ => fun _ => Or.inl (fl_ 66 rfl)
  | n + 6, h => absurd h (by omega)
theorem flS_ne_4 : ∀ j : Nat, j < 6 → 4 ≠ j → Cond.not (Cond.eq (tmS 4) (tmS j)) ∈ flL ∨ Cond.not (Cond.eq (tmS j) (tmS 4)) ∈ flL
  | 0, _ => fun _ => Or.inr (fl_ 49 rfl)
  | 1, _ => fun _ => Or.inr (fl_ 50 rfl)
  | 2, _ => fun _ => Or.inr (fl_ 51 rfl)
  | 3, _ => fun _ => Or.inr (fl_ 52 rfl)
  | 4, _ => fun h => absurd rfl h
  | 5, _ => fun _ => Or.inl (fl_ 67 rfl)
  | n + 6, h => absurd h (by omega)
theorem flS_ne_5 : ∀ j : Nat, j < 6 → 5 ≠ j → Cond.not (Cond.eq (tmS 5) (tmS j)) ∈ flL ∨ Cond.not (Cond.eq (tmS j) (tmS 5)) ∈ flL
  | 0, _ => fun _ => Or.inr (fl_ 63 rfl)
  | 1, _ => fun _ => Or.inr (fl_ 64 rfl)
  | 2, _ => fun _ => Or.inr (fl_ 65 rfl)
  | 3, _ => fun _ => Or.inr (fl_ 66 rfl)
  | 4, _ => fun _ => Or.inr (fl_ 67 rfl)
  | 5, _ => fun h => absurd rfl h
  | n + 6, h => absurd h (by omega)
theorem flS_ne : ∀ i : Nat, i < 6 → ∀ j : Nat, j < 6 → i ≠ j → Cond.not (Cond.eq (tmS i) (tmS j)) ∈ flL ∨ Cond.not (Cond.eq (tmS j) (tmS i)) ∈ flL
  | 0, _ => flS_ne_0
  | 1, _ => flS_ne_1
  | 2, _ => flS_ne_2
  | 3, _ => flS_ne_3
  | 4, _ => flS_ne_4
  | 5, _ => flS_ne_5
  | n + 6, h => absurd h (by omega)
theorem lw_same {args : Array Value} {s : State} {ta tb : Term} {x : Nat} (h : (Cond.eq ta tb).before args s = true) (ha : ta.eval args s none [] s = some (.ref x)) : tb.eval args s none [] s = some (.ref x) := by
  cases hv : tb.eval args s none [] s with
  | none => simp [Cond.before, Cond.holds, Cond.value, hv, ha] at h
  | some w =>
    simp only [Cond.before, Cond.holds, Cond.value, hv, ha] at h
    cases w <;> simp_all
theorem vk_S_congr {N : Nat} {len : List Nat} {byt : List (List Int32)} {adK adV bK bV : Nat → Nat} {A : Nat → Prop} {U : State} {H : Heap} (h : vk_S N len byt adK adV A U H) (h1 : ∀ i, i < N → bK i = adK i) (h2 : ∀ i, i < N → bV i = adV i) : vk_S N len byt bK bV A U H :=
  ⟨fun i hi => by rw [h1 i hi, h2 i hi]; exact h.1 i hi, fun i j hi hj e => h.2 i j hi hj (by rw [← h1 i hi, ← h1 j hj]; exact e)⟩
theorem lw_strs {s : State} {b : Nat} (hts : ∀ w ∈ lw_tbl, w.before #[Value.ref b] s = true) (hgv : (Jvm.Cond.and given_1 narrow_1).before #[Value.ref b] s = true) : ∃ adK adV : Nat → Nat, ∀ ad : Nat → Nat, (∀ i, i < 6 → ad (60 + i) = adK i ∧ ad (80 + i) = adV i) → zSt ad (lwA s) s s.heap := by
  have hg : ∀ w ∈ flL, w.before #[Value.ref b] s = true := by rw [← flS_L]; exact flat_of_before _ hgv
  have hA : ∀ a : Nat, a < s.heap.size → ¬ lwA s a := fun a h => Nat.not_le.mpr h
  obtain ⟨adK, adV, hS, hR⟩ := vk_Sof (args := #[Value.ref b]) (s := s) (N := 6) (tm := tmS) (len := lenS) (byt := bytS) (A := lwA s) (by decide) (fun i hi => hg _ (flS_ex i hi)) (fun i hi => hg _ (flS_co i hi)) (fun i hi => hg _ (flS_ar i hi)) (fun i hi => hg _ (flS_le i hi)) (fun i hi j hj => hg _ (flS_el i hi j hj)) (fun i j hi hj h => (flS_ne i hi j hj h).imp (hg _) (hg _)) hA
  have h212 := lw_same (hg (Cond.eq (.string "GritIsIssued$Text" 23) (.string "GritIsIssued" 212)) (fl_ 83 rfl)) (hR 5 (by decide))
  refine ⟨adK, adV, fun ad had => ⟨vk_S_congr hS (fun i hi => (had i hi).1) (fun i hi => (had i hi).2), ⟨?_, ?_, ?_, ?_, ?_, ?_, ?_⟩, ?_, ?_⟩⟩
  · rw [show ad 60 = adK 0 from (had 0 (by decide)).1]; exact vk_R.of (A := #[Value.ref b]) (hts (.stringRef "GritIsIssued$Text" 50 "k000;") (tb_1 183 rfl)) (hR 0 (by decide))
  · rw [show ad 61 = adK 1 from (had 1 (by decide)).1]; exact vk_R.of (A := #[Value.ref b]) (hts (.stringRef "GritIsIssued$Text" 52 "000;") (tb_1 184 rfl)) (hR 1 (by decide))
  · rw [show ad 62 = adK 2 from (had 2 (by decide)).1]; exact vk_R.of (A := #[Value.ref b]) (hts (.stringRef "GritIsIssued$Text" 54 "0;") (tb_1 185 rfl)) (hR 2 (by decide))
  · rw [show ad 63 = adK 3 from (had 3 (by decide)).1]; exact vk_R.of (A := #[Value.ref b]) (hts (.stringRef "GritIsIssued$Text" 56 "00;") (tb_1 186 rfl)) (hR 3 (by decide))
  · rw [show ad 64 = adK 4 from (had 4 (by decide)).1]; exact vk_R.of (A := #[Value.ref b]) (hts (.stringRef "GritIsIssued$Text" 58 "") (tb_1 187 rfl)) (hR 4 (by decide))
  · rw [show ad 65 = adK 5 from (had 5 (by decide)).1]; exact vk_R.of (A := #[Value.ref b]) (hts (.stringRef "GritIsIssued$Text" 23 "cmhtdg") (tb_2 8 rfl)) (hR 5 (by decide))
  · rw [show ad 65 = adK 5 from (had 5 (by decide)).1]; exact vk_R.of (A := #[Value.ref b]) (hts (.stringRef "GritIsIssued" 212 "cmhtdg") (tb_3 131 rfl)) h212
  · exact va_Zof (args := #[Value.ref b]) (hts (.laysStatic "java/lang/String" "COMPACT_STRINGS" "Z") (tb_1 201 rfl)) (hts (.initialized "java/lang/String") ((in_wsL_law_r5 _ (List.mem_of_getElem? (i := 9) rfl)).1)) (va_eqi (hg _ (fl_ 4 rfl))) hA
  · exact va_Zqof (args := #[Value.ref b]) (hts (.laysStatic "jdk/internal/util/Preconditions" "SIOOBE_FORMATTER" "Ljava/util/function/BiFunction;") (tb_1 217 rfl)) (hts (.initialized "jdk/internal/util/Preconditions") ((in_wsL_law_r6 _ (List.mem_of_getElem? (i := 16) rfl)).1)) (hg _ (fl_ 5 rfl)) hA
def mu0 : mm := fun _ _ => 0
theorem Rel_mu0 : Rel mu0 := by
  have z : ∀ a b, mu0 a b = 0 := fun _ _ => rfl
  have hO : ∀ o r, relO o r mu0 := fun o r => ⟨rfl, rfl, rfl, rfl, fun p h => absurd h (by rw [z]; omega)⟩
  have hK : ∀ r, okR mu0 r := fun r => ⟨⟨by rw [z]; decide, by rw [z]; decide⟩, ⟨by rw [z]; decide, by rw [z]; decide⟩, ⟨by rw [z]; decide, by rw [z]; decide⟩, ⟨by rw [z]; decide, by rw [z]; decide⟩, fun p h => absurd h (by rw [z]; omega)⟩
  refine ⟨⟨hO _ _, hK _, by rw [z]; decide⟩, ⟨rfl, Or.inl rfl⟩, ⟨rfl, ⟨by rw [z]; decide, by rw [z]; decide⟩, fun j h => absurd h (by rw [z]; omega)⟩, ⟨rfl, ⟨by rw [z]; decide, by rw [z]; decide⟩, fun j h => absurd h (by rw [z]; omega)⟩, fun j _ _ => rfl, fun k _ => ⟨rfl, rfl, rfl⟩⟩
def celZ (cy : ClassId × ClassId) (ad : Nat → Nat) : va_W := [(ad 0, .inr (4, [.ref (ad 1), .ref (ad 2), .ref (ad 3), .ref (ad 4), .int 0, .ref (ad 5), .ref (ad 6), .ref (ad 7), .int 0, .int 0, .int 0, .ref (ad 8), .int 0])), (ad 1, .inl (cy.1, 52, .inl (fun _ => 0))), (ad 2, .inl (cy.1, 52, .inl (fun _ => 0))), (ad 3, .inl (cy.1, 52, .inl (fun _ => 0))), (ad 4, .inl (cy.1, 52, .inl (fun _ => 0))), (ad 5, .inl (cy.1, 96, .inl (fun _ => 0))), (ad 6, .inl (cy.1, 16, .inl (fun _ => 0))), (ad 7, .inl (cy.1, 7, .inl (fun _ => 0))), (ad 8, .inl (cy.1, 3, .inl (fun _ => 0))), (ad 9, .inr (3, [.ref (ad 10), .ref (ad 21), .ref (ad 32), .ref (ad 43), .ref (ad 44), .ref (ad 46), .ref (ad 47), .ref (ad 48), .ref (ad 49), .int 0, .int 0])), (ad 10, .inr (0, [.ref (ad 11), .ref (ad 20), .int 0, .int 0, .int 0, .int 0])), (ad 11, .inl (cy.2, 8, .inr (.inr (.inr (.inr (fun j => some (ad (11 + 1 + j)))))))), (ad 12, .inr (1, [.int 0, .int 0, .int 0, .int 0, .int 0, .int 0, .int 0, .int 0])), (ad 13, .inr (1, [.int 0, .int 0, .int 0, .int 0, .int 0, .int 0, .int 0, .int 0])), (ad 14, .inr (1, [.int 0, .int 0, .int 0, .int 0, .int 0, .int 0, .int 0, .int 0])), (ad 15, .inr (1, [.int 0, .int 0, .int 0, .int 0, .int 0, .int 0, .int 0, .int 0])), (ad 16, .inr (1, [.int 0, .int 0, .int 0, .int 0, .int 0, .int 0, .int 0, .int 0])), (ad 17, .inr (1, [.int 0, .int 0, .int 0, .int 0, .int 0, .int 0, .int 0, .int 0])), (ad 18, .inr (1, [.int 0, .int 0, .int 0, .int 0, .int 0, .int 0, .int 0, .int 0])), (ad 19, .inr (1, [.int 0, .int 0, .int 0, .int 0, .int 0, .int 0, .int 0, .int 0])), (ad 20, .inr (1, [.int 0, .int 0, .int 0, .int 0, .int 0, .int 0, .int 0, .int 0])), (ad 21, .inr (0, [.ref (ad 22), .ref (ad 31), .int 0, .int 0, .int 0, .int 0])), (ad 22, .inl (cy.2, 8, .inr (.inr (.inr (.inr (fun j => some (ad (22 + 1 + j)))))))), (ad 23, .inr (1, [.int 0, .int 0, .int 0, .int 0, .int 0, .int 0, .int 0, .int 0])), (ad 24, .inr (1, [.int 0, .int 0, .int 0, .int 0, .int 0, .int 0, .int 0, .int 0])), (ad 25, .inr (1, [.int 0, .int 0, .int 0, .int 0, .int 0, .int 0, .int 0, .int 0])), (ad 26, .inr (1, [.int 0, .int 0, .int 0, .int 0, .int 0, .int 0, .int 0, .int 0])), (ad 27, .inr (1, [.int 0, .int 0, .int 0, .int 0, .int 0, .int 0, .int 0, .int 0])), (ad 28, .inr (1, [.int 0, .int 0, .int 0, .int 0, .int 0, .int 0, .int 0, .int 0])), (ad 29, .inr (1, [.int 0, .int 0, .int 0, .int 0, .int 0, .int 0, .int 0, .int 0])), (ad 30, .inr (1, [.int 0, .int 0, .int 0, .int 0, .int 0, .int 0, .int 0, .int 0])), (ad 31, .inr (1, [.int 0, .int 0, .int 0, .int 0, .int 0, .int 0, .int 0, .int 0])), (ad 32, .inr (0, [.ref (ad 33), .ref (ad 42), .int 0, .int 0, .int 0, .int 0])), (ad 33, .inl (cy.2, 8, .inr (.inr (.inr (.inr (fun j => some (ad (33 + 1 + j)))))))), (ad 34, .inr (1, [.int 0, .int 0, .int 0, .int 0, .int 0, .int 0, .int 0, .int 0])), (ad 35, .inr (1, [.int 0, .int 0, .int 0, .int 0, .int 0, .int 0, .int 0, .int 0])), (ad 36, .inr (1, [.int 0, .int 0, .int 0, .int 0, .int 0, .int 0, .int 0, .int 0])), (ad 37, .inr (1, [.int 0, .int 0, .int 0, .int 0, .int 0, .int 0, .int 0, .int 0])), (ad 38, .inr (1, [.int 0, .int 0, .int 0, .int 0, .int 0, .int 0, .int 0, .int 0])), (ad 39, .inr (1, [.int 0, .int 0, .int 0, .int 0, .int 0, .int 0, .int 0, .int 0])), (ad 40, .inr (1, [.int 0, .int 0, .int 0, .int 0, .int 0, .int 0, .int 0, .int 0])), (ad 41, .inr (1, [.int 0, .int 0, .int 0, .int 0, .int 0, .int 0, .int 0, .int 0])), (ad 42, .inr (1, [.int 0, .int 0, .int 0, .int 0, .int 0, .int 0, .int 0, .int 0])), (ad 43, .inr (1, [.int 0, .int 0, .int 0, .int 0, .int 0, .int 0, .int 0, .int 0])), (ad 44, .inr (2, [.ref (ad 45), .int 0])), (ad 45, .inl (cy.1, 96, .inl (fun _ => 0))), (ad 46, .inl (cy.1, 16, .inl (fun _ => 0))), (ad 47, .inl (cy.1, 7, .inl (fun _ => 0))), (ad 48, .inl (cy.1, 8, .inl (fun _ => 0))), (ad 49, .inl (cy.1, 8, .inl (fun _ => 0)))]
theorem iO_z : iO 0 = 0 := by decide
theorem gz_0 {cy : ClassId × ClassId} {ad : Nat → Nat} : gG cy ad mu0 0 = .inr (4, [.ref (ad 1), .ref (ad 2), .ref (ad 3), .ref (ad 4), .int 0, .ref (ad 5), .ref (ad 6), .ref (ad 7), .int 0, .int 0, .int 0, .ref (ad 8), .int 0]) := by rw [gG_1 (show kd 0 = 1 from rfl)]; simp only [mu0, iO_z]
theorem gz_1 {cy : ClassId × ClassId} {ad : Nat → Nat} : gG cy ad mu0 1 = .inl (cy.1, 52, .inl (fun _ => 0)) := (gG_2 (show kd 1 = 2 from rfl)).trans (by simp only [mu0, iO_z]; rfl)
theorem gz_2 {cy : ClassId × ClassId} {ad : Nat → Nat} : gG cy ad mu0 2 = .inl (cy.1, 52, .inl (fun _ => 0)) := (gG_2 (show kd 2 = 2 from rfl)).trans (by simp only [mu0, iO_z]; rfl)
theorem gz_3 {cy : ClassId × ClassId} {ad : Nat → Nat} : gG cy ad mu0 3 = .inl (cy.1, 52, .inl (fun _ => 0)) := (gG_2 (show kd 3 = 2 from rfl)).trans (by simp only [mu0, iO_z]; rfl)
theorem gz_4 {cy : ClassId × ClassId} {ad : Nat → Nat} : gG cy ad mu0 4 = .inl (cy.1, 52, .inl (fun _ => 0)) := (gG_2 (show kd 4 = 2 from rfl)).trans (by simp only [mu0, iO_z]; rfl)
theorem gz_5 {cy : ClassId × ClassId} {ad : Nat → Nat} : gG cy ad mu0 5 = .inl (cy.1, 96, .inl (fun _ => 0)) := (gG_2 (show kd 5 = 2 from rfl)).trans (by simp only [mu0, iO_z]; rfl)
theorem gz_6 {cy : ClassId × ClassId} {ad : Nat → Nat} : gG cy ad mu0 6 = .inl (cy.1, 16, .inl (fun _ => 0)) := (gG_2 (show kd 6 = 2 from rfl)).trans (by simp only [mu0, iO_z]; rfl)
theorem gz_7 {cy : ClassId × ClassId} {ad : Nat → Nat} : gG cy ad mu0 7 = .inl (cy.1, 7, .inl (fun _ => 0)) := (gG_2 (show kd 7 = 2 from rfl)).trans (by simp only [mu0, iO_z]; rfl)
theorem gz_8 {cy : ClassId × ClassId} {ad : Nat → Nat} : gG cy ad mu0 8 = .inl (cy.1, 3, .inl (fun _ => 0)) := (gG_2 (show kd 8 = 2 from rfl)).trans (by simp only [mu0, iO_z]; rfl)
theorem gz_9 {cy : ClassId × ClassId} {ad : Nat → Nat} : gG cy ad mu0 9 = .inr (3, [.ref (ad 10), .ref (ad 21), .ref (ad 32), .ref (ad 43), .ref (ad 44), .ref (ad 46), .ref (ad 47), .ref (ad 48), .ref (ad 49), .int 0, .int 0]) := by rw [gG_7 (show kd 9 = 7 from rfl)]; simp only [mu0, iO_z]
theorem gz_10 {cy : ClassId × ClassId} {ad : Nat → Nat} : gG cy ad mu0 10 = .inr (0, [.ref (ad 11), .ref (ad 20), .int 0, .int 0, .int 0, .int 0]) := by rw [gG_3 (show kd 10 = 3 from rfl)]; simp only [mu0, iO_z]
theorem gz_11 {cy : ClassId × ClassId} {ad : Nat → Nat} : gG cy ad mu0 11 = .inl (cy.2, 8, .inr (.inr (.inr (.inr (fun j => some (ad (11 + 1 + j))))))) := (gG_4 (show kd 11 = 4 from rfl)).trans rfl
theorem gz_12 {cy : ClassId × ClassId} {ad : Nat → Nat} : gG cy ad mu0 12 = .inr (1, [.int 0, .int 0, .int 0, .int 0, .int 0, .int 0, .int 0, .int 0]) := by rw [gG_5 (show kd 12 = 5 from rfl)]; simp only [mu0, iO_z]
theorem gz_13 {cy : ClassId × ClassId} {ad : Nat → Nat} : gG cy ad mu0 13 = .inr (1, [.int 0, .int 0, .int 0, .int 0, .int 0, .int 0, .int 0, .int 0]) := by rw [gG_5 (show kd 13 = 5 from rfl)]; simp only [mu0, iO_z]
theorem gz_14 {cy : ClassId × ClassId} {ad : Nat → Nat} : gG cy ad mu0 14 = .inr (1, [.int 0, .int 0, .int 0, .int 0, .int 0, .int 0, .int 0, .int 0]) := by rw [gG_5 (show kd 14 = 5 from rfl)]; simp only [mu0, iO_z]
theorem gz_15 {cy : ClassId × ClassId} {ad : Nat → Nat} : gG cy ad mu0 15 = .inr (1, [.int 0, .int 0, .int 0, .int 0, .int 0, .int 0, .int 0, .int 0]) := by rw [gG_5 (show kd 15 = 5 from rfl)]; simp only [mu0, iO_z]
theorem gz_16 {cy : ClassId × ClassId} {ad : Nat → Nat} : gG cy ad mu0 16 = .inr (1, [.int 0, .int 0, .int 0, .int 0, .int 0, .int 0, .int 0, .int 0]) := by rw [gG_5 (show kd 16 = 5 from rfl)]; simp only [mu0, iO_z]
theorem gz_17 {cy : ClassId × ClassId} {ad : Nat → Nat} : gG cy ad mu0 17 = .inr (1, [.int 0, .int 0, .int 0, .int 0, .int 0, .int 0, .int 0, .int 0]) := by rw [gG_5 (show kd 17 = 5 from rfl)]; simp only [mu0, iO_z]
theorem gz_18 {cy : ClassId × ClassId} {ad : Nat → Nat} : gG cy ad mu0 18 = .inr (1, [.int 0, .int 0, .int 0, .int 0, .int 0, .int 0, .int 0, .int 0]) := by rw [gG_5 (show kd 18 = 5 from rfl)]; simp only [mu0, iO_z]
theorem gz_19 {cy : ClassId × ClassId} {ad : Nat → Nat} : gG cy ad mu0 19 = .inr (1, [.int 0, .int 0, .int 0, .int 0, .int 0, .int 0, .int 0, .int 0]) := by rw [gG_5 (show kd 19 = 5 from rfl)]; simp only [mu0, iO_z]
theorem gz_20 {cy : ClassId × ClassId} {ad : Nat → Nat} : gG cy ad mu0 20 = .inr (1, [.int 0, .int 0, .int 0, .int 0, .int 0, .int 0, .int 0, .int 0]) := by rw [gG_5 (show kd 20 = 5 from rfl)]; simp only [mu0, iO_z]
theorem gz_21 {cy : ClassId × ClassId} {ad : Nat → Nat} : gG cy ad mu0 21 = .inr (0, [.ref (ad 22), .ref (ad 31), .int 0, .int 0, .int 0, .int 0]) := by rw [gG_3 (show kd 21 = 3 from rfl)]; simp only [mu0, iO_z]
theorem gz_22 {cy : ClassId × ClassId} {ad : Nat → Nat} : gG cy ad mu0 22 = .inl (cy.2, 8, .inr (.inr (.inr (.inr (fun j => some (ad (22 + 1 + j))))))) := (gG_4 (show kd 22 = 4 from rfl)).trans rfl
theorem gz_23 {cy : ClassId × ClassId} {ad : Nat → Nat} : gG cy ad mu0 23 = .inr (1, [.int 0, .int 0, .int 0, .int 0, .int 0, .int 0, .int 0, .int 0]) := by rw [gG_5 (show kd 23 = 5 from rfl)]; simp only [mu0, iO_z]
theorem gz_24 {cy : ClassId × ClassId} {ad : Nat → Nat} : gG cy ad mu0 24 = .inr (1, [.int 0, .int 0, .int 0, .int 0, .int 0, .int 0, .int 0, .int 0]) := by rw [gG_5 (show kd 24 = 5 from rfl)]; simp only [mu0, iO_z]
theorem gz_25 {cy : ClassId × ClassId} {ad : Nat → Nat} : gG cy ad mu0 25 = .inr (1, [.int 0, .int 0, .int 0, .int 0, .int 0, .int 0, .int 0, .int 0]) := by rw [gG_5 (show kd 25 = 5 from rfl)]; simp only [mu0, iO_z]
theorem gz_26 {cy : ClassId × ClassId} {ad : Nat → Nat} : gG cy ad mu0 26 = .inr (1, [.int 0, .int 0, .int 0, .int 0, .int 0, .int 0, .int 0, .int 0]) := by rw [gG_5 (show kd 26 = 5 from rfl)]; simp only [mu0, iO_z]
theorem gz_27 {cy : ClassId × ClassId} {ad : Nat → Nat} : gG cy ad mu0 27 = .inr (1, [.int 0, .int 0, .int 0, .int 0, .int 0, .int 0, .int 0, .int 0]) := by rw [gG_5 (show kd 27 = 5 from rfl)]; simp only [mu0, iO_z]
theorem gz_28 {cy : ClassId × ClassId} {ad : Nat → Nat} : gG cy ad mu0 28 = .inr (1, [.int 0, .int 0, .int 0, .int 0, .int 0, .int 0, .int 0, .int 0]) := by rw [gG_5 (show kd 28 = 5 from rfl)]; simp only [mu0, iO_z]
theorem gz_29 {cy : ClassId × ClassId} {ad : Nat → Nat} : gG cy ad mu0 29 = .inr (1, [.int 0, .int 0, .int 0, .int 0, .int 0, .int 0, .int 0, .int 0]) := by rw [gG_5 (show kd 29 = 5 from rfl)]; simp only [mu0, iO_z]
theorem gz_30 {cy : ClassId × ClassId} {ad : Nat → Nat} : gG cy ad mu0 30 = .inr (1, [.int 0, .int 0, .int 0, .int 0, .int 0, .int 0, .int 0, .int 0]) := by rw [gG_5 (show kd 30 = 5 from rfl)]; simp only [mu0, iO_z]
theorem gz_31 {cy : ClassId × ClassId} {ad : Nat → Nat} : gG cy ad mu0 31 = .inr (1, [.int 0, .int 0, .int 0, .int 0, .int 0, .int 0, .int 0, .int 0]) := by rw [gG_5 (show kd 31 = 5 from rfl)]; simp only [mu0, iO_z]
theorem gz_32 {cy : ClassId × ClassId} {ad : Nat → Nat} : gG cy ad mu0 32 = .inr (0, [.ref (ad 33), .ref (ad 42), .int 0, .int 0, .int 0, .int 0]) := by rw [gG_3 (show kd 32 = 3 from rfl)]; simp only [mu0, iO_z]
theorem gz_33 {cy : ClassId × ClassId} {ad : Nat → Nat} : gG cy ad mu0 33 = .inl (cy.2, 8, .inr (.inr (.inr (.inr (fun j => some (ad (33 + 1 + j))))))) := (gG_4 (show kd 33 = 4 from rfl)).trans rfl
theorem gz_34 {cy : ClassId × ClassId} {ad : Nat → Nat} : gG cy ad mu0 34 = .inr (1, [.int 0, .int 0, .int 0, .int 0, .int 0, .int 0, .int 0, .int 0]) := by rw [gG_5 (show kd 34 = 5 from rfl)]; simp only [mu0, iO_z]
theorem gz_35 {cy : ClassId × ClassId} {ad : Nat → Nat} : gG cy ad mu0 35 = .inr (1, [.int 0, .int 0, .int 0, .int 0, .int 0, .int 0, .int 0, .int 0]) := by rw [gG_5 (show kd 35 = 5 from rfl)]; simp only [mu0, iO_z]
theorem gz_36 {cy : ClassId × ClassId} {ad : Nat → Nat} : gG cy ad mu0 36 = .inr (1, [.int 0, .int 0, .int 0, .int 0, .int 0, .int 0, .int 0, .int 0]) := by rw [gG_5 (show kd 36 = 5 from rfl)]; simp only [mu0, iO_z]
theorem gz_37 {cy : ClassId × ClassId} {ad : Nat → Nat} : gG cy ad mu0 37 = .inr (1, [.int 0, .int 0, .int 0, .int 0, .int 0, .int 0, .int 0, .int 0]) := by rw [gG_5 (show kd 37 = 5 from rfl)]; simp only [mu0, iO_z]
theorem gz_38 {cy : ClassId × ClassId} {ad : Nat → Nat} : gG cy ad mu0 38 = .inr (1, [.int 0, .int 0, .int 0, .int 0, .int 0, .int 0, .int 0, .int 0]) := by rw [gG_5 (show kd 38 = 5 from rfl)]; simp only [mu0, iO_z]
theorem gz_39 {cy : ClassId × ClassId} {ad : Nat → Nat} : gG cy ad mu0 39 = .inr (1, [.int 0, .int 0, .int 0, .int 0, .int 0, .int 0, .int 0, .int 0]) := by rw [gG_5 (show kd 39 = 5 from rfl)]; simp only [mu0, iO_z]
theorem gz_40 {cy : ClassId × ClassId} {ad : Nat → Nat} : gG cy ad mu0 40 = .inr (1, [.int 0, .int 0, .int 0, .int 0, .int 0, .int 0, .int 0, .int 0]) := by rw [gG_5 (show kd 40 = 5 from rfl)]; simp only [mu0, iO_z]
theorem gz_41 {cy : ClassId × ClassId} {ad : Nat → Nat} : gG cy ad mu0 41 = .inr (1, [.int 0, .int 0, .int 0, .int 0, .int 0, .int 0, .int 0, .int 0]) := by rw [gG_5 (show kd 41 = 5 from rfl)]; simp only [mu0, iO_z]
theorem gz_42 {cy : ClassId × ClassId} {ad : Nat → Nat} : gG cy ad mu0 42 = .inr (1, [.int 0, .int 0, .int 0, .int 0, .int 0, .int 0, .int 0, .int 0]) := by rw [gG_5 (show kd 42 = 5 from rfl)]; simp only [mu0, iO_z]
theorem gz_43 {cy : ClassId × ClassId} {ad : Nat → Nat} : gG cy ad mu0 43 = .inr (1, [.int 0, .int 0, .int 0, .int 0, .int 0, .int 0, .int 0, .int 0]) := by rw [gG_5 (show kd 43 = 5 from rfl)]; simp only [mu0, iO_z]
theorem gz_44 {cy : ClassId × ClassId} {ad : Nat → Nat} : gG cy ad mu0 44 = .inr (2, [.ref (ad 45), .int 0]) := by rw [gG_6 (show kd 44 = 6 from rfl)]; simp only [mu0, iO_z]
theorem gz_45 {cy : ClassId × ClassId} {ad : Nat → Nat} : gG cy ad mu0 45 = .inl (cy.1, 96, .inl (fun _ => 0)) := (gG_2 (show kd 45 = 2 from rfl)).trans (by simp only [mu0, iO_z]; rfl)
theorem gz_46 {cy : ClassId × ClassId} {ad : Nat → Nat} : gG cy ad mu0 46 = .inl (cy.1, 16, .inl (fun _ => 0)) := (gG_2 (show kd 46 = 2 from rfl)).trans (by simp only [mu0, iO_z]; rfl)
theorem gz_47 {cy : ClassId × ClassId} {ad : Nat → Nat} : gG cy ad mu0 47 = .inl (cy.1, 7, .inl (fun _ => 0)) := (gG_2 (show kd 47 = 2 from rfl)).trans (by simp only [mu0, iO_z]; rfl)
theorem gz_48 {cy : ClassId × ClassId} {ad : Nat → Nat} : gG cy ad mu0 48 = .inl (cy.1, 8, .inl (fun _ => 0)) := (gG_2 (show kd 48 = 2 from rfl)).trans (by simp only [mu0, iO_z]; rfl)
theorem gz_49 {cy : ClassId × ClassId} {ad : Nat → Nat} : gG cy ad mu0 49 = .inl (cy.1, 8, .inl (fun _ => 0)) := (gG_2 (show kd 49 = 2 from rfl)).trans (by simp only [mu0, iO_z]; rfl)
theorem cel_z {cy : ClassId × ClassId} {ad : Nat → Nat} : cel cy ad mu0 = celZ cy ad := by
  show [(ad 0, gG cy ad mu0 0), (ad 1, gG cy ad mu0 1), (ad 2, gG cy ad mu0 2), (ad 3, gG cy ad mu0 3), (ad 4, gG cy ad mu0 4), (ad 5, gG cy ad mu0 5), (ad 6, gG cy ad mu0 6), (ad 7, gG cy ad mu0 7), (ad 8, gG cy ad mu0 8), (ad 9, gG cy ad mu0 9), (ad 10, gG cy ad mu0 10), (ad 11, gG cy ad mu0 11), (ad 12, gG cy ad mu0 12), (ad 13, gG cy ad mu0 13), (ad 14, gG cy ad mu0 14), (ad 15, gG cy ad mu0 15), (ad 16, gG cy ad mu0 16), (ad 17, gG cy ad mu0 17), (ad 18, gG cy ad mu0 18), (ad 19, gG cy ad mu0 19), (ad 20, gG cy ad mu0 20), (ad 21, gG cy ad mu0 21), (ad 22, gG cy ad mu0 22), (ad 23, gG cy ad mu0 23), (ad 24, gG cy ad mu0 24), (ad 25, gG cy ad mu0 25), (ad 26, gG cy ad mu0 26), (ad 27, gG cy ad mu0 27), (ad 28, gG cy ad mu0 28), (ad 29, gG cy ad mu0 29), (ad 30, gG cy ad mu0 30), (ad 31, gG cy ad mu0 31), (ad 32, gG cy ad mu0 32), (ad 33, gG cy ad mu0 33), (ad 34, gG cy ad mu0 34), (ad 35, gG cy ad mu0 35), (ad 36, gG cy ad mu0 36), (ad 37, gG cy ad mu0 37), (ad 38, gG cy ad mu0 38), (ad 39, gG cy ad mu0 39), (ad 40, gG cy ad mu0 40), (ad 41, gG cy ad mu0 41), (ad 42, gG cy ad mu0 42), (ad 43, gG cy ad mu0 43), (ad 44, gG cy ad mu0 44), (ad 45, gG cy ad mu0 45), (ad 46, gG cy ad mu0 46), (ad 47, gG cy ad mu0 47), (ad 48, gG cy ad mu0 48), (ad 49, gG cy ad mu0 49)] = celZ cy ad
  simp only [gz_0, gz_1, gz_2, gz_3, gz_4, gz_5, gz_6, gz_7, gz_8, gz_9, gz_10, gz_11, gz_12, gz_13, gz_14, gz_15, gz_16, gz_17, gz_18, gz_19, gz_20, gz_21, gz_22, gz_23, gz_24, gz_25, gz_26, gz_27, gz_28, gz_29, gz_30, gz_31, gz_32, gz_33, gz_34, gz_35, gz_36, gz_37, gz_38, gz_39, gz_40, gz_41, gz_42, gz_43, gz_44, gz_45, gz_46, gz_47, gz_48, gz_49, celZ]
def lwAd (M : List Nat) (adK adV : Nat → Nat) (i : Nat) : Nat := if i < 60 then M.getD i 0 else if i < 80 then adK (i - 60) else adV (i - 80)
theorem lwAd_s {M : List Nat} {adK adV : Nat → Nat} : ∀ i, i < 6 → lwAd M adK adV (60 + i) = adK i ∧ lwAd M adK adV (80 + i) = adV i := by
  intro i hi
  constructor
  · rw [lwAd, if_neg (by omega), if_pos (by omega)]; congr 1; omega
  · rw [lwAd, if_neg (by omega), if_neg (by omega)]; congr 1; omega
