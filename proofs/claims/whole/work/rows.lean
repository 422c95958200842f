section
-- ===== PART A: goes FIRST, ahead of the names: the tables' words, and 'selects' of the private methods out of them =====
/-- a private method of a class that the tables say can be made, by its rows of tables_1 -/
def lw_okq (q : MethodName × Nat) : Prop := (q.1.cls ≠ "java/lang/invoke/MethodHandle" ∧ q.1.cls ≠ "java/lang/invoke/VarHandle") ∧ Cond.instantiable q.1.cls q.2 ∈ tables_1 ∧ Cond.privateMethod q.1 ∈ tables_1 ∧ Cond.instanceMethod q.1 ∈ tables_1
theorem lw_p0 : lw_okq (⟨"GritIsIssued", "refused", "(I)I"⟩, 11) := ⟨⟨by decide +kernel, by decide +kernel⟩, List.mem_of_getElem? (i := 15) (by decide +kernel), List.mem_of_getElem? (i := 157) (by decide +kernel), List.mem_of_getElem? (i := 158) (by decide +kernel)⟩
theorem lw_p1 : lw_okq (⟨"GritIsIssued", "read", "()I"⟩, 11) := ⟨⟨by decide +kernel, by decide +kernel⟩, List.mem_of_getElem? (i := 15) (by decide +kernel), List.mem_of_getElem? (i := 169) (by decide +kernel), List.mem_of_getElem? (i := 170) (by decide +kernel)⟩
theorem lw_p2 : lw_okq (⟨"GritIsIssued$Text", "fits", "(II)Z"⟩, 2) := ⟨⟨by decide +kernel, by decide +kernel⟩, List.mem_of_getElem? (i := 101) (by decide +kernel), List.mem_of_getElem? (i := 241) (by decide +kernel), List.mem_of_getElem? (i := 242) (by decide +kernel)⟩
theorem lw_p3 : lw_okq (⟨"GritIsIssued", "comes", "(I)Z"⟩, 11) := ⟨⟨by decide +kernel, by decide +kernel⟩, List.mem_of_getElem? (i := 15) (by decide +kernel), List.mem_of_getElem? (i := 321) (by decide +kernel), List.mem_of_getElem? (i := 322) (by decide +kernel)⟩
theorem lw_p4 : lw_okq (⟨"GritIsIssued$Office", "wear", "(I)V"⟩, 6) := ⟨⟨by decide +kernel, by decide +kernel⟩, List.mem_of_getElem? (i := 23) (by decide +kernel), List.mem_of_getElem? (i := 348) (by decide +kernel), List.mem_of_getElem? (i := 349) (by decide +kernel)⟩
theorem lw_p5 : lw_okq (⟨"GritIsIssued", "unknown", "(I)I"⟩, 11) := ⟨⟨by decide +kernel, by decide +kernel⟩, List.mem_of_getElem? (i := 15) (by decide +kernel), List.mem_of_getElem? (i := 391) (by decide +kernel), List.mem_of_getElem? (i := 392) (by decide +kernel)⟩
theorem lw_p6 : lw_okq (⟨"GritIsIssued", "thought", "(III)LGritIsIssued$Person;"⟩, 11) := ⟨⟨by decide +kernel, by decide +kernel⟩, List.mem_of_getElem? (i := 15) (by decide +kernel), List.mem_of_getElem? (i := 446) (by decide +kernel), List.mem_of_getElem? (i := 447) (by decide +kernel)⟩
theorem lw_p7 : lw_okq (⟨"GritIsIssued", "weigh", "(I)V"⟩, 11) := ⟨⟨by decide +kernel, by decide +kernel⟩, List.mem_of_getElem? (i := 15) (by decide +kernel), List.mem_of_getElem? (i := 507) (by decide +kernel), List.mem_of_getElem? (i := 508) (by decide +kernel)⟩
theorem lw_p8 : lw_okq (⟨"GritIsIssued", "throughMore", "(III)I"⟩, 11) := ⟨⟨by decide +kernel, by decide +kernel⟩, List.mem_of_getElem? (i := 15) (by decide +kernel), List.mem_of_getElem? (i := 511) (by decide +kernel), List.mem_of_getElem? (i := 512) (by decide +kernel)⟩
theorem lw_p9 : lw_okq (⟨"GritIsIssued", "throughOf", "(I)I"⟩, 11) := ⟨⟨by decide +kernel, by decide +kernel⟩, List.mem_of_getElem? (i := 15) (by decide +kernel), List.mem_of_getElem? (i := 515) (by decide +kernel), List.mem_of_getElem? (i := 516) (by decide +kernel)⟩
theorem lw_p10 : lw_okq (⟨"GritIsIssued", "weighed", "(IZ)I"⟩, 11) := ⟨⟨by decide +kernel, by decide +kernel⟩, List.mem_of_getElem? (i := 15) (by decide +kernel), List.mem_of_getElem? (i := 519) (by decide +kernel), List.mem_of_getElem? (i := 520) (by decide +kernel)⟩
theorem lw_p11 : lw_okq (⟨"GritIsIssued", "shortMore", "(III)I"⟩, 11) := ⟨⟨by decide +kernel, by decide +kernel⟩, List.mem_of_getElem? (i := 15) (by decide +kernel), List.mem_of_getElem? (i := 544) (by decide +kernel), List.mem_of_getElem? (i := 545) (by decide +kernel)⟩
theorem lw_p12 : lw_okq (⟨"GritIsIssued", "firstWants", "(II)I"⟩, 11) := ⟨⟨by decide +kernel, by decide +kernel⟩, List.mem_of_getElem? (i := 15) (by decide +kernel), List.mem_of_getElem? (i := 573) (by decide +kernel), List.mem_of_getElem? (i := 574) (by decide +kernel)⟩
theorem lw_p13 : lw_okq (⟨"GritIsIssued", "wants", "(III)I"⟩, 11) := ⟨⟨by decide +kernel, by decide +kernel⟩, List.mem_of_getElem? (i := 15) (by decide +kernel), List.mem_of_getElem? (i := 577) (by decide +kernel), List.mem_of_getElem? (i := 578) (by decide +kernel)⟩
theorem lw_p14 : lw_okq (⟨"GritIsIssued", "otherWants", "(IIII)I"⟩, 11) := ⟨⟨by decide +kernel, by decide +kernel⟩, List.mem_of_getElem? (i := 15) (by decide +kernel), List.mem_of_getElem? (i := 581) (by decide +kernel), List.mem_of_getElem? (i := 582) (by decide +kernel)⟩
theorem lw_p15 : lw_okq (⟨"GritIsIssued", "throughLosing", "(III)I"⟩, 11) := ⟨⟨by decide +kernel, by decide +kernel⟩, List.mem_of_getElem? (i := 15) (by decide +kernel), List.mem_of_getElem? (i := 590) (by decide +kernel), List.mem_of_getElem? (i := 591) (by decide +kernel)⟩
def lw_privs_1 : List (MethodName × Nat) := [(⟨"GritIsIssued", "refused", "(I)I"⟩, 11), (⟨"GritIsIssued", "read", "()I"⟩, 11), (⟨"GritIsIssued$Text", "fits", "(II)Z"⟩, 2), (⟨"GritIsIssued", "comes", "(I)Z"⟩, 11), (⟨"GritIsIssued$Office", "wear", "(I)V"⟩, 6), (⟨"GritIsIssued", "unknown", "(I)I"⟩, 11), (⟨"GritIsIssued", "thought", "(III)LGritIsIssued$Person;"⟩, 11), (⟨"GritIsIssued", "weigh", "(I)V"⟩, 11), (⟨"GritIsIssued", "throughMore", "(III)I"⟩, 11), (⟨"GritIsIssued", "throughOf", "(I)I"⟩, 11), (⟨"GritIsIssued", "weighed", "(IZ)I"⟩, 11), (⟨"GritIsIssued", "shortMore", "(III)I"⟩, 11), (⟨"GritIsIssued", "firstWants", "(II)I"⟩, 11), (⟨"GritIsIssued", "wants", "(III)I"⟩, 11), (⟨"GritIsIssued", "otherWants", "(IIII)I"⟩, 11), (⟨"GritIsIssued", "throughLosing", "(III)I"⟩, 11)]
theorem lw_r1 : ∀ q ∈ lw_privs_1, lw_okq q := List.forall_mem_cons.mpr ⟨lw_p0, List.forall_mem_cons.mpr ⟨lw_p1, List.forall_mem_cons.mpr ⟨lw_p2, List.forall_mem_cons.mpr ⟨lw_p3, List.forall_mem_cons.mpr ⟨lw_p4, List.forall_mem_cons.mpr ⟨lw_p5, List.forall_mem_cons.mpr ⟨lw_p6, List.forall_mem_cons.mpr ⟨lw_p7, List.forall_mem_cons.mpr ⟨lw_p8, List.forall_mem_cons.mpr ⟨lw_p9, List.forall_mem_cons.mpr ⟨lw_p10, List.forall_mem_cons.mpr ⟨lw_p11, List.forall_mem_cons.mpr ⟨lw_p12, List.forall_mem_cons.mpr ⟨lw_p13, List.forall_mem_cons.mpr ⟨lw_p14, List.forall_mem_cons.mpr ⟨lw_p15, fun _ h => absurd h List.not_mem_nil⟩⟩⟩⟩⟩⟩⟩⟩⟩⟩⟩⟩⟩⟩⟩⟩
theorem lw_p16 : lw_okq (⟨"GritIsIssued", "rowIsOfTrial", "()Z"⟩, 11) := ⟨⟨by decide +kernel, by decide +kernel⟩, List.mem_of_getElem? (i := 15) (by decide +kernel), List.mem_of_getElem? (i := 614) (by decide +kernel), List.mem_of_getElem? (i := 615) (by decide +kernel)⟩
theorem lw_p17 : lw_okq (⟨"GritIsIssuedModel", "no", "(I)I"⟩, 13) := ⟨⟨by decide +kernel, by decide +kernel⟩, List.mem_of_getElem? (i := 653) (by decide +kernel), List.mem_of_getElem? (i := 703) (by decide +kernel), List.mem_of_getElem? (i := 704) (by decide +kernel)⟩
theorem lw_p18 : lw_okq (⟨"GritIsIssuedModel", "readsStatement", "()Z"⟩, 13) := ⟨⟨by decide +kernel, by decide +kernel⟩, List.mem_of_getElem? (i := 653) (by decide +kernel), List.mem_of_getElem? (i := 711) (by decide +kernel), List.mem_of_getElem? (i := 712) (by decide +kernel)⟩
theorem lw_p19 : lw_okq (⟨"GritIsIssuedModel", "here", "()I"⟩, 13) := ⟨⟨by decide +kernel, by decide +kernel⟩, List.mem_of_getElem? (i := 653) (by decide +kernel), List.mem_of_getElem? (i := 715) (by decide +kernel), List.mem_of_getElem? (i := 716) (by decide +kernel)⟩
theorem lw_p20 : lw_okq (⟨"GritIsIssuedModel", "readsKind", "()Z"⟩, 13) := ⟨⟨by decide +kernel, by decide +kernel⟩, List.mem_of_getElem? (i := 653) (by decide +kernel), List.mem_of_getElem? (i := 719) (by decide +kernel), List.mem_of_getElem? (i := 720) (by decide +kernel)⟩
theorem lw_p21 : lw_okq (⟨"GritIsIssuedModel", "readsNumber", "(II)Z"⟩, 13) := ⟨⟨by decide +kernel, by decide +kernel⟩, List.mem_of_getElem? (i := 653) (by decide +kernel), List.mem_of_getElem? (i := 726) (by decide +kernel), List.mem_of_getElem? (i := 727) (by decide +kernel)⟩
theorem lw_p22 : lw_okq (⟨"GritIsIssuedModel", "isDone", "(I)Z"⟩, 13) := ⟨⟨by decide +kernel, by decide +kernel⟩, List.mem_of_getElem? (i := 653) (by decide +kernel), List.mem_of_getElem? (i := 736) (by decide +kernel), List.mem_of_getElem? (i := 737) (by decide +kernel)⟩
theorem lw_p23 : lw_okq (⟨"GritIsIssuedModel", "adds", "(III)Z"⟩, 13) := ⟨⟨by decide +kernel, by decide +kernel⟩, List.mem_of_getElem? (i := 653) (by decide +kernel), List.mem_of_getElem? (i := 740) (by decide +kernel), List.mem_of_getElem? (i := 741) (by decide +kernel)⟩
theorem lw_p24 : lw_okq (⟨"GritIsIssuedModel", "isOne", "(I)Z"⟩, 13) := ⟨⟨by decide +kernel, by decide +kernel⟩, List.mem_of_getElem? (i := 653) (by decide +kernel), List.mem_of_getElem? (i := 747) (by decide +kernel), List.mem_of_getElem? (i := 748) (by decide +kernel)⟩
theorem lw_p25 : lw_okq (⟨"GritIsIssuedModel", "takes", "(I)V"⟩, 13) := ⟨⟨by decide +kernel, by decide +kernel⟩, List.mem_of_getElem? (i := 653) (by decide +kernel), List.mem_of_getElem? (i := 822) (by decide +kernel), List.mem_of_getElem? (i := 823) (by decide +kernel)⟩
theorem lw_p26 : lw_okq (⟨"GritIsIssuedModel", "isShortOn", "(I)Z"⟩, 13) := ⟨⟨by decide +kernel, by decide +kernel⟩, List.mem_of_getElem? (i := 653) (by decide +kernel), List.mem_of_getElem? (i := 834) (by decide +kernel), List.mem_of_getElem? (i := 835) (by decide +kernel)⟩
theorem lw_p27 : lw_okq (⟨"GritIsIssuedModel", "isThroughOn", "(I)Z"⟩, 13) := ⟨⟨by decide +kernel, by decide +kernel⟩, List.mem_of_getElem? (i := 653) (by decide +kernel), List.mem_of_getElem? (i := 842) (by decide +kernel), List.mem_of_getElem? (i := 843) (by decide +kernel)⟩
theorem lw_p28 : lw_okq (⟨"GritIsIssuedModel", "isShortWithin", "(II)Z"⟩, 13) := ⟨⟨by decide +kernel, by decide +kernel⟩, List.mem_of_getElem? (i := 653) (by decide +kernel), List.mem_of_getElem? (i := 858) (by decide +kernel), List.mem_of_getElem? (i := 859) (by decide +kernel)⟩
theorem lw_p29 : lw_okq (⟨"GritIsIssuedModel", "lacking", "()I"⟩, 13) := ⟨⟨by decide +kernel, by decide +kernel⟩, List.mem_of_getElem? (i := 653) (by decide +kernel), List.mem_of_getElem? (i := 866) (by decide +kernel), List.mem_of_getElem? (i := 867) (by decide +kernel)⟩
theorem lw_p30 : lw_okq (⟨"GritIsIssuedModel", "lacksOf", "(I)I"⟩, 13) := ⟨⟨by decide +kernel, by decide +kernel⟩, List.mem_of_getElem? (i := 653) (by decide +kernel), List.mem_of_getElem? (i := 873) (by decide +kernel), List.mem_of_getElem? (i := 874) (by decide +kernel)⟩
theorem lw_p31 : lw_okq (⟨"GritIsIssuedModel", "signs", "(I)I"⟩, 13) := ⟨⟨by decide +kernel, by decide +kernel⟩, List.mem_of_getElem? (i := 653) (by decide +kernel), List.mem_of_getElem? (i := 884) (by decide +kernel), List.mem_of_getElem? (i := 885) (by decide +kernel)⟩
def lw_privs_2 : List (MethodName × Nat) := [(⟨"GritIsIssued", "rowIsOfTrial", "()Z"⟩, 11), (⟨"GritIsIssuedModel", "no", "(I)I"⟩, 13), (⟨"GritIsIssuedModel", "readsStatement", "()Z"⟩, 13), (⟨"GritIsIssuedModel", "here", "()I"⟩, 13), (⟨"GritIsIssuedModel", "readsKind", "()Z"⟩, 13), (⟨"GritIsIssuedModel", "readsNumber", "(II)Z"⟩, 13), (⟨"GritIsIssuedModel", "isDone", "(I)Z"⟩, 13), (⟨"GritIsIssuedModel", "adds", "(III)Z"⟩, 13), (⟨"GritIsIssuedModel", "isOne", "(I)Z"⟩, 13), (⟨"GritIsIssuedModel", "takes", "(I)V"⟩, 13), (⟨"GritIsIssuedModel", "isShortOn", "(I)Z"⟩, 13), (⟨"GritIsIssuedModel", "isThroughOn", "(I)Z"⟩, 13), (⟨"GritIsIssuedModel", "isShortWithin", "(II)Z"⟩, 13), (⟨"GritIsIssuedModel", "lacking", "()I"⟩, 13), (⟨"GritIsIssuedModel", "lacksOf", "(I)I"⟩, 13), (⟨"GritIsIssuedModel", "signs", "(I)I"⟩, 13)]
theorem lw_r2 : ∀ q ∈ lw_privs_2, lw_okq q := List.forall_mem_cons.mpr ⟨lw_p16, List.forall_mem_cons.mpr ⟨lw_p17, List.forall_mem_cons.mpr ⟨lw_p18, List.forall_mem_cons.mpr ⟨lw_p19, List.forall_mem_cons.mpr ⟨lw_p20, List.forall_mem_cons.mpr ⟨lw_p21, List.forall_mem_cons.mpr ⟨lw_p22, List.forall_mem_cons.mpr ⟨lw_p23, List.forall_mem_cons.mpr ⟨lw_p24, List.forall_mem_cons.mpr ⟨lw_p25, List.forall_mem_cons.mpr ⟨lw_p26, List.forall_mem_cons.mpr ⟨lw_p27, List.forall_mem_cons.mpr ⟨lw_p28, List.forall_mem_cons.mpr ⟨lw_p29, List.forall_mem_cons.mpr ⟨lw_p30, List.forall_mem_cons.mpr ⟨lw_p31, fun _ h => absurd h List.not_mem_nil⟩⟩⟩⟩⟩⟩⟩⟩⟩⟩⟩⟩⟩⟩⟩⟩
theorem lw_p32 : lw_okq (⟨"GritIsIssuedModel", "throughBehind", "(I)I"⟩, 13) := ⟨⟨by decide +kernel, by decide +kernel⟩, List.mem_of_getElem? (i := 653) (by decide +kernel), List.mem_of_getElem? (i := 888) (by decide +kernel), List.mem_of_getElem? (i := 889) (by decide +kernel)⟩
theorem lw_p33 : lw_okq (⟨"GritIsIssuedModel", "refusesOne", "()I"⟩, 13) := ⟨⟨by decide +kernel, by decide +kernel⟩, List.mem_of_getElem? (i := 653) (by decide +kernel), List.mem_of_getElem? (i := 896) (by decide +kernel), List.mem_of_getElem? (i := 897) (by decide +kernel)⟩
theorem lw_p34 : lw_okq (⟨"GritIsIssuedModel", "servesAll", "(II)Z"⟩, 13) := ⟨⟨by decide +kernel, by decide +kernel⟩, List.mem_of_getElem? (i := 653) (by decide +kernel), List.mem_of_getElem? (i := 904) (by decide +kernel), List.mem_of_getElem? (i := 905) (by decide +kernel)⟩
theorem lw_p35 : lw_okq (⟨"GritIsIssuedModel", "throughOf", "([II)I"⟩, 13) := ⟨⟨by decide +kernel, by decide +kernel⟩, List.mem_of_getElem? (i := 653) (by decide +kernel), List.mem_of_getElem? (i := 912) (by decide +kernel), List.mem_of_getElem? (i := 913) (by decide +kernel)⟩
theorem lw_p36 : lw_okq (⟨"GritIsIssuedModel", "noFar", "(I)I"⟩, 13) := ⟨⟨by decide +kernel, by decide +kernel⟩, List.mem_of_getElem? (i := 653) (by decide +kernel), List.mem_of_getElem? (i := 937) (by decide +kernel), List.mem_of_getElem? (i := 938) (by decide +kernel)⟩
theorem lw_p37 : lw_okq (⟨"GritIsIssuedModel", "ownBy", "(IIIIII)I"⟩, 13) := ⟨⟨by decide +kernel, by decide +kernel⟩, List.mem_of_getElem? (i := 653) (by decide +kernel), List.mem_of_getElem? (i := 949) (by decide +kernel), List.mem_of_getElem? (i := 950) (by decide +kernel)⟩
theorem lw_p38 : lw_okq (⟨"GritIsIssuedModel", "noWide", "(I)J"⟩, 13) := ⟨⟨by decide +kernel, by decide +kernel⟩, List.mem_of_getElem? (i := 653) (by decide +kernel), List.mem_of_getElem? (i := 957) (by decide +kernel), List.mem_of_getElem? (i := 958) (by decide +kernel)⟩
theorem lw_p39 : lw_okq (⟨"GritIsIssuedModel", "drawn", "(I)I"⟩, 13) := ⟨⟨by decide +kernel, by decide +kernel⟩, List.mem_of_getElem? (i := 653) (by decide +kernel), List.mem_of_getElem? (i := 992) (by decide +kernel), List.mem_of_getElem? (i := 993) (by decide +kernel)⟩
def lw_privs_3 : List (MethodName × Nat) := [(⟨"GritIsIssuedModel", "throughBehind", "(I)I"⟩, 13), (⟨"GritIsIssuedModel", "refusesOne", "()I"⟩, 13), (⟨"GritIsIssuedModel", "servesAll", "(II)Z"⟩, 13), (⟨"GritIsIssuedModel", "throughOf", "([II)I"⟩, 13), (⟨"GritIsIssuedModel", "noFar", "(I)I"⟩, 13), (⟨"GritIsIssuedModel", "ownBy", "(IIIIII)I"⟩, 13), (⟨"GritIsIssuedModel", "noWide", "(I)J"⟩, 13), (⟨"GritIsIssuedModel", "drawn", "(I)I"⟩, 13)]
theorem lw_r3 : ∀ q ∈ lw_privs_3, lw_okq q := List.forall_mem_cons.mpr ⟨lw_p32, List.forall_mem_cons.mpr ⟨lw_p33, List.forall_mem_cons.mpr ⟨lw_p34, List.forall_mem_cons.mpr ⟨lw_p35, List.forall_mem_cons.mpr ⟨lw_p36, List.forall_mem_cons.mpr ⟨lw_p37, List.forall_mem_cons.mpr ⟨lw_p38, List.forall_mem_cons.mpr ⟨lw_p39, fun _ h => absurd h List.not_mem_nil⟩⟩⟩⟩⟩⟩⟩⟩
def lw_privs : List (MethodName × Nat) := lw_privs_1 ++ (lw_privs_2 ++ (lw_privs_3))
def lw_tbl : List Cond := k2_sels lw_privs ++ tables_1
theorem lw_privs_ok : ∀ q ∈ lw_privs, lw_okq q := by
  show ∀ q ∈ lw_privs_1 ++ (lw_privs_2 ++ (lw_privs_3)), lw_okq q
  exact List.forall_mem_append.mpr ⟨lw_r1, List.forall_mem_append.mpr ⟨lw_r2, lw_r3⟩⟩
end
section
/-! ===== BEGIN words of one list among another's, by their places ===== -/
theorem goodIn_r {big : List Cond} (ws : List Cond) (ps : List Nat) (hp : ws = ps.filterMap (fun i => big[i]?)) (h : ws.all goodWord = true) : GoodIn big ws := by
  intro w hw
  have h1 := List.all_eq_true.mp h w hw
  rw [hp] at hw
  obtain ⟨i, -, hi⟩ := List.mem_filterMap.mp hw
  have hm : w ∈ big := by first | exact List.mem_of_getElem? hi | exact List.getElem?_mem hi
  exact ⟨hm, good_of_word h1⟩
theorem goodIn_app {big a b : List Cond} (ha : GoodIn big a) (hb : GoodIn big b) : GoodIn big (a ++ b) := fun w h => (List.mem_append.mp h).elim (ha w) (hb w)
theorem goodIn_ca {big a b : List Cond} {c : Cond} (ha : GoodIn big (c :: a)) (hb : GoodIn big b) : GoodIn big (c :: (a ++ b)) := fun w h => (List.mem_cons.mp h).elim (fun e => ha w (List.mem_cons.mpr (Or.inl e))) (fun h => (List.mem_append.mp h).elim (fun h => ha w (List.mem_cons.mpr (Or.inr h))) (hb w))
theorem goodIn_sub {big ws : List Cond} (hm : ∀ w ∈ ws, w ∈ big) (h : ws.all goodWord = true) : GoodIn big ws := fun w hw => ⟨hm w hw, good_of_word (List.all_eq_true.mp h w hw)⟩
/-! ===== END ===== -/

/-! ===== BEGIN printed: names, fields, word lists, decode rows ===== -/
def RX0 : String := "GritIsIssued$Kind"
def TX0 : u_T := fun k => match k with
  | _ => ("", "", "", false)
def tyX0 : Nat → FieldType := fun k => match k with
  | _ => .int
abbrev wsX00 : List Cond := u_ws RX0 TX0 0
theorem nmX0 : ∀ a, a < 0 → ∀ b, b < 0 → a ≠ b → (TX0 a).2.1 ≠ (TX0 b).2.1 := by decide +kernel
theorem tyX0_ok : ∀ k, k < 0 → parseFieldDescriptor (TX0 k).2.2.1 = some (tyX0 k) := by decide +kernel
abbrev cX0_needs : ByteArray := prog_2_method_2_code
def yX0_needs : MethodName := ⟨RX0, "needs", "(II)I"⟩
abbrev cX0_wears : ByteArray := prog_2_method_3_code
def yX0_wears : MethodName := ⟨RX0, "wears", "(II)I"⟩
abbrev cX0_nextIn : ByteArray := prog_2_method_4_code
def yX0_nextIn : MethodName := ⟨RX0, "nextIn", "(I)I"⟩
def RX1 : String := "GritIsIssued$Office"
def TX1 : u_T := fun k => match k with
  | 0 => ("GritIsIssued$Office", "room", "[LGritIsIssued$Person;", true)
  | 1 => ("GritIsIssued$Office", "nobody", "LGritIsIssued$Person;", true)
  | 2 => ("GritIsIssued$Office", "people", "I", false)
  | 3 => ("GritIsIssued$Office", "store", "I", false)
  | 4 => ("GritIsIssued$Office", "worn", "I", false)
  | _ => ("GritIsIssued$Office", "day", "I", false)
def tyX1 : Nat → FieldType := fun k => match k with
  | 0 => .array (.object "GritIsIssued$Person")
  | 1 => .object "GritIsIssued$Person"
  | 2 => .int
  | 3 => .int
  | 4 => .int
  | _ => .int
abbrev wsX10 : List Cond := u_ws RX1 TX1 6
theorem nmX1 : ∀ a, a < 6 → ∀ b, b < 6 → a ≠ b → (TX1 a).2.1 ≠ (TX1 b).2.1 := by decide +kernel
theorem tyX1_ok : ∀ k, k < 6 → parseFieldDescriptor (TX1 k).2.2.1 = some (tyX1 k) := by decide +kernel
abbrev cX1_init : ByteArray := prog_3_method_1_code
def yX1_init : MethodName := ⟨RX1, "<init>", "()V"⟩
abbrev cX1_knows : ByteArray := prog_3_method_2_code
def yX1_knows : MethodName := ⟨RX1, "knows", "(I)Z"⟩
abbrev cX1_at : ByteArray := prog_3_method_3_code
def yX1_at : MethodName := ⟨RX1, "at", "(I)LGritIsIssued$Person;"⟩
abbrev cX1_takeFrom : ByteArray := prog_3_method_4_code
def yX1_takeFrom : MethodName := ⟨RX1, "takeFrom", "(LGritIsIssued$Office;)V"⟩
abbrev cX1_welcome : ByteArray := prog_3_method_5_code
def yX1_welcome : MethodName := ⟨RX1, "welcome", "(III)Z"⟩
abbrev cX1_issue : ByteArray := prog_3_method_6_code
def yX1_issue : MethodName := ⟨RX1, "issue", "(II)Z"⟩
abbrev cX1_handIn : ByteArray := prog_3_method_7_code
def yX1_handIn : MethodName := ⟨RX1, "handIn", "(I)Z"⟩
abbrev cX1_setDue : ByteArray := prog_3_method_8_code
def yX1_setDue : MethodName := ⟨RX1, "setDue", "(II)Z"⟩
abbrev cX1_fill : ByteArray := prog_3_method_9_code
def yX1_fill : MethodName := ⟨RX1, "fill", "(I)Z"⟩
abbrev cX1_daysCome : ByteArray := prog_3_method_10_code
def yX1_daysCome : MethodName := ⟨RX1, "daysCome", "(I)Z"⟩
abbrev cX1_daysGoBy : ByteArray := prog_3_method_11_code
def yX1_daysGoBy : MethodName := ⟨RX1, "daysGoBy", "(I)V"⟩
abbrev cX1_wear : ByteArray := prog_3_method_12_code
def yX1_wear : MethodName := ⟨RX1, "wear", "(I)V"⟩
abbrev cX1_issueAhead : ByteArray := prog_3_method_13_code
def yX1_issueAhead : MethodName := ⟨RX1, "issueAhead", "()I"⟩
abbrev cX1_firstMissing : ByteArray := prog_3_method_14_code
def yX1_firstMissing : MethodName := ⟨RX1, "firstMissing", "()I"⟩
abbrev cX1_lackAll : ByteArray := prog_3_method_15_code
def yX1_lackAll : MethodName := ⟨RX1, "lackAll", "(I)Z"⟩
abbrev cX1_lackOf : ByteArray := prog_3_method_16_code
def yX1_lackOf : MethodName := ⟨RX1, "lackOf", "(I)I"⟩
abbrev cX1_allThrough : ByteArray := prog_3_method_17_code
def yX1_allThrough : MethodName := ⟨RX1, "allThrough", "()I"⟩
abbrev cX1_allShort : ByteArray := prog_3_method_18_code
def yX1_allShort : MethodName := ⟨RX1, "allShort", "()I"⟩
abbrev cX1_allHas : ByteArray := prog_3_method_19_code
def yX1_allHas : MethodName := ⟨RX1, "allHas", "()I"⟩
abbrev cX1_allWithMatter : ByteArray := prog_3_method_20_code
def yX1_allWithMatter : MethodName := ⟨RX1, "allWithMatter", "()I"⟩
def RX2 : String := "GritIsIssued$Person"
def TX2 : u_T := fun k => match k with
  | 0 => ("GritIsIssued$Person", "kind", "I", false)
  | 1 => ("GritIsIssued$Person", "figure", "I", false)
  | 2 => ("GritIsIssued$Person", "has", "I", false)
  | 3 => ("GritIsIssued$Person", "due", "I", false)
  | 4 => ("GritIsIssued$Person", "through", "I", false)
  | 5 => ("GritIsIssued$Person", "shorts", "I", false)
  | 6 => ("GritIsIssued$Person", "passed", "I", false)
  | _ => ("GritIsIssued$Person", "missed", "I", false)
def tyX2 : Nat → FieldType := fun k => match k with
  | 0 => .int
  | 1 => .int
  | 2 => .int
  | 3 => .int
  | 4 => .int
  | 5 => .int
  | 6 => .int
  | _ => .int
abbrev wsX20 : List Cond := u_ws RX2 TX2 8
theorem nmX2 : ∀ a, a < 8 → ∀ b, b < 8 → a ≠ b → (TX2 a).2.1 ≠ (TX2 b).2.1 := by decide +kernel
theorem tyX2_ok : ∀ k, k < 8 → parseFieldDescriptor (TX2 k).2.2.1 = some (tyX2 k) := by decide +kernel
abbrev cX2_init : ByteArray := prog_4_method_1_code
def yX2_init : MethodName := ⟨RX2, "<init>", "()V"⟩
abbrev cX2_takeFrom : ByteArray := prog_4_method_2_code
def yX2_takeFrom : MethodName := ⟨RX2, "takeFrom", "(LGritIsIssued$Person;)V"⟩
abbrev cX2_needed : ByteArray := prog_4_method_3_code
def yX2_needed : MethodName := ⟨RX2, "needed", "()I"⟩
abbrev cX2_lacking : ByteArray := prog_4_method_4_code
def yX2_lacking : MethodName := ⟨RX2, "lacking", "()I"⟩
abbrev cX2_oneDay : ByteArray := prog_4_method_5_code
def yX2_oneDay : MethodName := ⟨RX2, "oneDay", "()I"⟩
def RX3 : String := "GritIsIssued$Text"
def TX3 : u_T := fun k => match k with
  | 0 => ("GritIsIssued$Text", "letters", "[I", true)
  | _ => ("GritIsIssued$Text", "count", "I", false)
def tyX3 : Nat → FieldType := fun k => match k with
  | 0 => .array .int
  | _ => .int
abbrev wsX30 : List Cond := u_ws RX3 TX3 2
theorem nmX3 : ∀ a, a < 2 → ∀ b, b < 2 → a ≠ b → (TX3 a).2.1 ≠ (TX3 b).2.1 := by decide +kernel
theorem tyX3_ok : ∀ k, k < 2 → parseFieldDescriptor (TX3 k).2.2.1 = some (tyX3 k) := by decide +kernel
abbrev cX3_init : ByteArray := prog_5_method_1_code
def yX3_init : MethodName := ⟨RX3, "<init>", "()V"⟩
abbrev cX3_add : ByteArray := prog_5_method_2_code
def yX3_add : MethodName := ⟨RX3, "add", "(I)V"⟩
abbrev cX3_letterAt : ByteArray := prog_5_method_3_code
def yX3_letterAt : MethodName := ⟨RX3, "letterAt", "(I)I"⟩
abbrev cX3_kindAt : ByteArray := prog_5_method_4_code
def yX3_kindAt : MethodName := ⟨RX3, "kindAt", "(I)I"⟩
abbrev cX3_number : ByteArray := prog_5_method_5_code
def yX3_number : MethodName := ⟨RX3, "number", "(II)I"⟩
abbrev cX3_lengthAt : ByteArray := prog_5_method_6_code
def yX3_lengthAt : MethodName := ⟨RX3, "lengthAt", "(I)I"⟩
abbrev cX3_firstWrong : ByteArray := prog_5_method_7_code
def yX3_firstWrong : MethodName := ⟨RX3, "firstWrong", "()I"⟩
abbrev cX3_behind : ByteArray := prog_5_method_8_code
def yX3_behind : MethodName := ⟨RX3, "behind", "(I)Ljava/lang/String;"⟩
abbrev cX3_fits : ByteArray := prog_5_method_9_code
def yX3_fits : MethodName := ⟨RX3, "fits", "(II)Z"⟩
def RX4 : String := "GritIsIssued"
def TX4 : u_T := fun k => match k with
  | 0 => ("GritIsIssued", "now", "LGritIsIssued$Office;", true)
  | 1 => ("GritIsIssued", "mind", "LGritIsIssued$Office;", true)
  | 2 => ("GritIsIssued", "image", "LGritIsIssued$Office;", true)
  | 3 => ("GritIsIssued", "trial", "LGritIsIssued$Person;", true)
  | 4 => ("GritIsIssued", "text", "LGritIsIssued$Text;", true)
  | 5 => ("GritIsIssued", "row", "[I", true)
  | 6 => ("GritIsIssued", "refusals", "[I", true)
  | 7 => ("GritIsIssued", "throughBare", "[I", true)
  | 8 => ("GritIsIssued", "throughGiven", "[I", true)
  | 9 => ("GritIsIssued", "rowCount", "I", false)
  | _ => ("GritIsIssued", "hasImage", "Z", false)
def tyX4 : Nat → FieldType := fun k => match k with
  | 0 => .object "GritIsIssued$Office"
  | 1 => .object "GritIsIssued$Office"
  | 2 => .object "GritIsIssued$Office"
  | 3 => .object "GritIsIssued$Person"
  | 4 => .object "GritIsIssued$Text"
  | 5 => .array .int
  | 6 => .array .int
  | 7 => .array .int
  | 8 => .array .int
  | 9 => .int
  | _ => .boolean
abbrev wsX40 : List Cond := u_ws RX4 TX4 11
theorem nmX4 : ∀ a, a < 11 → ∀ b, b < 11 → a ≠ b → (TX4 a).2.1 ≠ (TX4 b).2.1 := by decide +kernel
theorem tyX4_ok : ∀ k, k < 11 → parseFieldDescriptor (TX4 k).2.2.1 = some (tyX4 k) := by decide +kernel
abbrev cX4_init : ByteArray := prog_1_method_1_code
def yX4_init : MethodName := ⟨RX4, "<init>", "()V"⟩
abbrev cX4_letter : ByteArray := prog_1_method_2_code
def yX4_letter : MethodName := ⟨RX4, "letter", "(I)I"⟩
abbrev cX4_counter : ByteArray := prog_1_method_3_code
def yX4_counter : MethodName := ⟨RX4, "counter", "()I"⟩
abbrev cX4_person : ByteArray := prog_1_method_4_code
def yX4_person : MethodName := ⟨RX4, "person", "(II)I"⟩
abbrev cX4_issues : ByteArray := prog_1_method_5_code
def yX4_issues : MethodName := ⟨RX4, "issues", "(II)I"⟩
abbrev cX4_returns : ByteArray := prog_1_method_6_code
def yX4_returns : MethodName := ⟨RX4, "returns", "(I)I"⟩
abbrev cX4_due : ByteArray := prog_1_method_7_code
def yX4_due : MethodName := ⟨RX4, "due", "(II)I"⟩
abbrev cX4_fills : ByteArray := prog_1_method_8_code
def yX4_fills : MethodName := ⟨RX4, "fills", "(I)I"⟩
abbrev cX4_turn : ByteArray := prog_1_method_9_code
def yX4_turn : MethodName := ⟨RX4, "turn", "(III)I"⟩
abbrev cX4_days : ByteArray := prog_1_method_10_code
def yX4_days : MethodName := ⟨RX4, "days", "(I)I"⟩
abbrev cX4_personThen : ByteArray := prog_1_method_11_code
def yX4_personThen : MethodName := ⟨RX4, "personThen", "(III)I"⟩
abbrev cX4_allThen : ByteArray := prog_1_method_12_code
def yX4_allThen : MethodName := ⟨RX4, "allThen", "(II)I"⟩
abbrev cX4_first : ByteArray := prog_1_method_13_code
def yX4_first : MethodName := ⟨RX4, "first", "(I)I"⟩
abbrev cX4_lasts : ByteArray := prog_1_method_14_code
def yX4_lasts : MethodName := ⟨RX4, "lasts", "(I)I"⟩
abbrev cX4_lacks : ByteArray := prog_1_method_15_code
def yX4_lacks : MethodName := ⟨RX4, "lacks", "()I"⟩
abbrev cX4_next : ByteArray := prog_1_method_16_code
def yX4_next : MethodName := ⟨RX4, "next", "(I)I"⟩
abbrev cX4_enough : ByteArray := prog_1_method_17_code
def yX4_enough : MethodName := ⟨RX4, "enough", "(II)I"⟩
abbrev cX4_serve : ByteArray := prog_1_method_18_code
def yX4_serve : MethodName := ⟨RX4, "serve", "(I)I"⟩
abbrev cX4_best : ByteArray := prog_1_method_19_code
def yX4_best : MethodName := ⟨RX4, "best", "(II)I"⟩
abbrev cX4_run : ByteArray := prog_1_method_20_code
def yX4_run : MethodName := ⟨RX4, "run", "(I)I"⟩
abbrev cX4_stock : ByteArray := prog_1_method_21_code
def yX4_stock : MethodName := ⟨RX4, "stock", "(I)I"⟩
abbrev cX4_borrow : ByteArray := prog_1_method_22_code
def yX4_borrow : MethodName := ⟨RX4, "borrow", "(II)I"⟩
abbrev cX4_sweep : ByteArray := prog_1_method_23_code
def yX4_sweep : MethodName := ⟨RX4, "sweep", "(II)I"⟩
abbrev cX4_grain : ByteArray := prog_1_method_24_code
def yX4_grain : MethodName := ⟨RX4, "grain", "(I)I"⟩
abbrev cX4_shares : ByteArray := prog_1_method_25_code
def yX4_shares : MethodName := ⟨RX4, "shares", "(I)I"⟩
abbrev cX4_richest : ByteArray := prog_1_method_26_code
def yX4_richest : MethodName := ⟨RX4, "richest", "()I"⟩
abbrev cX4_trusted : ByteArray := prog_1_method_27_code
def yX4_trusted : MethodName := ⟨RX4, "trusted", "(I)I"⟩
abbrev cX4_worth : ByteArray := prog_1_method_28_code
def yX4_worth : MethodName := ⟨RX4, "worth", "()I"⟩
abbrev cX4_two : ByteArray := prog_1_method_29_code
def yX4_two : MethodName := ⟨RX4, "two", "(III)I"⟩
abbrev cX4_slip : ByteArray := prog_1_method_30_code
def yX4_slip : MethodName := ⟨RX4, "slip", "(IIIII)J"⟩
abbrev cX4_mean : ByteArray := prog_1_method_31_code
def yX4_mean : MethodName := ⟨RX4, "mean", "(I)J"⟩
abbrev cX4_whatIs : ByteArray := prog_1_method_32_code
def yX4_whatIs : MethodName := ⟨RX4, "whatIs", "(II)I"⟩
abbrev cX4_row : ByteArray := prog_1_method_33_code
def yX4_row : MethodName := ⟨RX4, "row", "(I)I"⟩
abbrev cX4_judge : ByteArray := prog_1_method_34_code
def yX4_judge : MethodName := ⟨RX4, "judge", "()I"⟩
abbrev cX4_clear : ByteArray := prog_1_method_35_code
def yX4_clear : MethodName := ⟨RX4, "clear", "()I"⟩
abbrev cX4_lots : ByteArray := prog_1_method_36_code
def yX4_lots : MethodName := ⟨RX4, "lots", "(III)I"⟩
abbrev cX4_image : ByteArray := prog_1_method_37_code
def yX4_image : MethodName := ⟨RX4, "image", "()I"⟩
abbrev cX4_on : ByteArray := prog_1_method_38_code
def yX4_on : MethodName := ⟨RX4, "on", "()I"⟩
abbrev cX4_count : ByteArray := prog_1_method_39_code
def yX4_count : MethodName := ⟨RX4, "count", "(I)I"⟩
abbrev cX4_refused : ByteArray := prog_1_method_40_code
def yX4_refused : MethodName := ⟨RX4, "refused", "(I)I"⟩
abbrev cX4_firstOf : ByteArray := prog_1_method_41_code
def yX4_firstOf : MethodName := ⟨RX4, "firstOf", "(III)I"⟩
abbrev cX4_unknown : ByteArray := prog_1_method_42_code
def yX4_unknown : MethodName := ⟨RX4, "unknown", "(I)I"⟩
abbrev cX4_other : ByteArray := prog_1_method_43_code
def yX4_other : MethodName := ⟨RX4, "other", "(II)I"⟩
abbrev cX4_outside : ByteArray := prog_1_method_44_code
def yX4_outside : MethodName := ⟨RX4, "outside", "(III)I"⟩
abbrev cX4_read : ByteArray := prog_1_method_45_code
def yX4_read : MethodName := ⟨RX4, "read", "()I"⟩
abbrev cX4_comes : ByteArray := prog_1_method_46_code
def yX4_comes : MethodName := ⟨RX4, "comes", "(I)Z"⟩
abbrev cX4_thought : ByteArray := prog_1_method_47_code
def yX4_thought : MethodName := ⟨RX4, "thought", "(III)LGritIsIssued$Person;"⟩
abbrev cX4_throughMore : ByteArray := prog_1_method_48_code
def yX4_throughMore : MethodName := ⟨RX4, "throughMore", "(III)I"⟩
abbrev cX4_shortMore : ByteArray := prog_1_method_49_code
def yX4_shortMore : MethodName := ⟨RX4, "shortMore", "(III)I"⟩
abbrev cX4_throughLosing : ByteArray := prog_1_method_50_code
def yX4_throughLosing : MethodName := ⟨RX4, "throughLosing", "(III)I"⟩
abbrev cX4_rowIsOfTrial : ByteArray := prog_1_method_51_code
def yX4_rowIsOfTrial : MethodName := ⟨RX4, "rowIsOfTrial", "()Z"⟩
abbrev cX4_weigh : ByteArray := prog_1_method_52_code
def yX4_weigh : MethodName := ⟨RX4, "weigh", "(I)V"⟩
abbrev cX4_weighed : ByteArray := prog_1_method_53_code
def yX4_weighed : MethodName := ⟨RX4, "weighed", "(IZ)I"⟩
abbrev cX4_throughOf : ByteArray := prog_1_method_54_code
def yX4_throughOf : MethodName := ⟨RX4, "throughOf", "(I)I"⟩
abbrev cX4_firstWants : ByteArray := prog_1_method_55_code
def yX4_firstWants : MethodName := ⟨RX4, "firstWants", "(II)I"⟩
abbrev cX4_otherWants : ByteArray := prog_1_method_56_code
def yX4_otherWants : MethodName := ⟨RX4, "otherWants", "(IIII)I"⟩
abbrev cX4_wants : ByteArray := prog_1_method_57_code
def yX4_wants : MethodName := ⟨RX4, "wants", "(III)I"⟩
abbrev cX4_power : ByteArray := prog_1_method_58_code
def yX4_power : MethodName := ⟨RX4, "power", "(JI)J"⟩
abbrev cX4_leastTerms : ByteArray := prog_1_method_59_code
def yX4_leastTerms : MethodName := ⟨RX4, "leastTerms", "(JJI)J"⟩
def RX5 : String := "GritIsIssuedModel"
def TX5 : u_T := fun k => match k with
  | 0 => ("GritIsIssuedModel", "s", "[I", true)
  | 1 => ("GritIsIssuedModel", "m", "[I", true)
  | 2 => ("GritIsIssuedModel", "image", "[I", true)
  | 3 => ("GritIsIssuedModel", "was", "[I", true)
  | 4 => ("GritIsIssuedModel", "hasImage", "Z", false)
  | 5 => ("GritIsIssuedModel", "letters", "[I", true)
  | 6 => ("GritIsIssuedModel", "row", "[I", true)
  | 7 => ("GritIsIssuedModel", "refused", "[I", true)
  | 8 => ("GritIsIssuedModel", "letterMany", "I", false)
  | 9 => ("GritIsIssuedModel", "rowMany", "I", false)
  | 10 => ("GritIsIssuedModel", "place", "I", false)
  | 11 => ("GritIsIssuedModel", "numbers", "[I", true)
  | _ => ("GritIsIssuedModel", "seed", "I", false)
def tyX5 : Nat → FieldType := fun k => match k with
  | 0 => .array .int
  | 1 => .array .int
  | 2 => .array .int
  | 3 => .array .int
  | 4 => .boolean
  | 5 => .array .int
  | 6 => .array .int
  | 7 => .array .int
  | 8 => .int
  | 9 => .int
  | 10 => .int
  | 11 => .array .int
  | _ => .int
abbrev wsX50 : List Cond := u_ws RX5 TX5 13
theorem nmX5 : ∀ a, a < 13 → ∀ b, b < 13 → a ≠ b → (TX5 a).2.1 ≠ (TX5 b).2.1 := by decide +kernel
theorem tyX5_ok : ∀ k, k < 13 → parseFieldDescriptor (TX5 k).2.2.1 = some (tyX5 k) := by decide +kernel
abbrev cX5_init : ByteArray := prog_7_method_1_code
def yX5_init : MethodName := ⟨RX5, "<init>", "()V"⟩
abbrev cX5_isIn : ByteArray := prog_7_method_2_code
def yX5_isIn : MethodName := ⟨RX5, "isIn", "(III)Z"⟩
abbrev cX5_least : ByteArray := prog_7_method_3_code
def yX5_least : MethodName := ⟨RX5, "least", "(II)I"⟩
abbrev cX5_copies : ByteArray := prog_7_method_4_code
def yX5_copies : MethodName := ⟨RX5, "copies", "([I[I)V"⟩
abbrev cX5_no : ByteArray := prog_7_method_5_code
def yX5_no : MethodName := ⟨RX5, "no", "(I)I"⟩
abbrev cX5_noFar : ByteArray := prog_7_method_6_code
def yX5_noFar : MethodName := ⟨RX5, "noFar", "(I)I"⟩
abbrev cX5_noWide : ByteArray := prog_7_method_7_code
def yX5_noWide : MethodName := ⟨RX5, "noWide", "(I)J"⟩
abbrev cX5_of : ByteArray := prog_7_method_8_code
def yX5_of : MethodName := ⟨RX5, "of", "(II)I"⟩
abbrev cX5_isOne : ByteArray := prog_7_method_9_code
def yX5_isOne : MethodName := ⟨RX5, "isOne", "(I)Z"⟩
abbrev cX5_has : ByteArray := prog_7_method_10_code
def yX5_has : MethodName := ⟨RX5, "has", "(II)Z"⟩
abbrev cX5_bits : ByteArray := prog_7_method_11_code
def yX5_bits : MethodName := ⟨RX5, "bits", "(I)I"⟩
abbrev cX5_needs : ByteArray := prog_7_method_12_code
def yX5_needs : MethodName := ⟨RX5, "needs", "([II)I"⟩
abbrev cX5_wears : ByteArray := prog_7_method_13_code
def yX5_wears : MethodName := ⟨RX5, "wears", "([II)I"⟩
abbrev cX5_nextBy : ByteArray := prog_7_method_14_code
def yX5_nextBy : MethodName := ⟨RX5, "nextBy", "(I)I"⟩
abbrev cX5_lacksIn : ByteArray := prog_7_method_15_code
def yX5_lacksIn : MethodName := ⟨RX5, "lacksIn", "([II)I"⟩
abbrev cX5_isGone : ByteArray := prog_7_method_16_code
def yX5_isGone : MethodName := ⟨RX5, "isGone", "([II)V"⟩
abbrev cX5_meets : ByteArray := prog_7_method_17_code
def yX5_meets : MethodName := ⟨RX5, "meets", "([II)V"⟩
abbrev cX5_day : ByteArray := prog_7_method_18_code
def yX5_day : MethodName := ⟨RX5, "day", "([I)V"⟩
abbrev cX5_daysOn : ByteArray := prog_7_method_19_code
def yX5_daysOn : MethodName := ⟨RX5, "daysOn", "([II)V"⟩
abbrev cX5_allOf : ByteArray := prog_7_method_20_code
def yX5_allOf : MethodName := ⟨RX5, "allOf", "([II)I"⟩
abbrev cX5_issuesIn : ByteArray := prog_7_method_21_code
def yX5_issuesIn : MethodName := ⟨RX5, "issuesIn", "([III)V"⟩
abbrev cX5_handsIn : ByteArray := prog_7_method_22_code
def yX5_handsIn : MethodName := ⟨RX5, "handsIn", "([II)V"⟩
abbrev cX5_throughBehind : ByteArray := prog_7_method_23_code
def yX5_throughBehind : MethodName := ⟨RX5, "throughBehind", "(I)I"⟩
abbrev cX5_letter : ByteArray := prog_7_method_24_code
def yX5_letter : MethodName := ⟨RX5, "letter", "(I)I"⟩
abbrev cX5_here : ByteArray := prog_7_method_25_code
def yX5_here : MethodName := ⟨RX5, "here", "()I"⟩
abbrev cX5_readsNumber : ByteArray := prog_7_method_26_code
def yX5_readsNumber : MethodName := ⟨RX5, "readsNumber", "(II)Z"⟩
abbrev cX5_kindBy : ByteArray := prog_7_method_27_code
def yX5_kindBy : MethodName := ⟨RX5, "kindBy", "(I)I"⟩
abbrev cX5_readsKind : ByteArray := prog_7_method_28_code
def yX5_readsKind : MethodName := ⟨RX5, "readsKind", "()Z"⟩
abbrev cX5_readsStatement : ByteArray := prog_7_method_29_code
def yX5_readsStatement : MethodName := ⟨RX5, "readsStatement", "()Z"⟩
abbrev cX5_adds : ByteArray := prog_7_method_30_code
def yX5_adds : MethodName := ⟨RX5, "adds", "(III)Z"⟩
abbrev cX5_isDone : ByteArray := prog_7_method_31_code
def yX5_isDone : MethodName := ⟨RX5, "isDone", "(I)Z"⟩
abbrev cX5_counter : ByteArray := prog_7_method_32_code
def yX5_counter : MethodName := ⟨RX5, "counter", "()I"⟩
abbrev cX5_person : ByteArray := prog_7_method_33_code
def yX5_person : MethodName := ⟨RX5, "person", "(II)I"⟩
abbrev cX5_wrongBy : ByteArray := prog_7_method_34_code
def yX5_wrongBy : MethodName := ⟨RX5, "wrongBy", "(III)I"⟩
abbrev cX5_issues : ByteArray := prog_7_method_35_code
def yX5_issues : MethodName := ⟨RX5, "issues", "(II)I"⟩
abbrev cX5_returns : ByteArray := prog_7_method_36_code
def yX5_returns : MethodName := ⟨RX5, "returns", "(I)I"⟩
abbrev cX5_due : ByteArray := prog_7_method_37_code
def yX5_due : MethodName := ⟨RX5, "due", "(II)I"⟩
abbrev cX5_fills : ByteArray := prog_7_method_38_code
def yX5_fills : MethodName := ⟨RX5, "fills", "(I)I"⟩
abbrev cX5_turn : ByteArray := prog_7_method_39_code
def yX5_turn : MethodName := ⟨RX5, "turn", "(III)I"⟩
abbrev cX5_days : ByteArray := prog_7_method_40_code
def yX5_days : MethodName := ⟨RX5, "days", "(I)I"⟩
abbrev cX5_takes : ByteArray := prog_7_method_41_code
def yX5_takes : MethodName := ⟨RX5, "takes", "(I)V"⟩
abbrev cX5_personThen : ByteArray := prog_7_method_42_code
def yX5_personThen : MethodName := ⟨RX5, "personThen", "(III)I"⟩
abbrev cX5_allThen : ByteArray := prog_7_method_43_code
def yX5_allThen : MethodName := ⟨RX5, "allThen", "(II)I"⟩
abbrev cX5_first : ByteArray := prog_7_method_44_code
def yX5_first : MethodName := ⟨RX5, "first", "(I)I"⟩
abbrev cX5_isShortOn : ByteArray := prog_7_method_45_code
def yX5_isShortOn : MethodName := ⟨RX5, "isShortOn", "(I)Z"⟩
abbrev cX5_isThroughOn : ByteArray := prog_7_method_46_code
def yX5_isThroughOn : MethodName := ⟨RX5, "isThroughOn", "(I)Z"⟩
abbrev cX5_lasts : ByteArray := prog_7_method_47_code
def yX5_lasts : MethodName := ⟨RX5, "lasts", "(I)I"⟩
abbrev cX5_lacks : ByteArray := prog_7_method_48_code
def yX5_lacks : MethodName := ⟨RX5, "lacks", "()I"⟩
abbrev cX5_next : ByteArray := prog_7_method_49_code
def yX5_next : MethodName := ⟨RX5, "next", "(I)I"⟩
abbrev cX5_isShortWithin : ByteArray := prog_7_method_50_code
def yX5_isShortWithin : MethodName := ⟨RX5, "isShortWithin", "(II)Z"⟩
abbrev cX5_enough : ByteArray := prog_7_method_51_code
def yX5_enough : MethodName := ⟨RX5, "enough", "(II)I"⟩
abbrev cX5_lacksOf : ByteArray := prog_7_method_52_code
def yX5_lacksOf : MethodName := ⟨RX5, "lacksOf", "(I)I"⟩
abbrev cX5_lacking : ByteArray := prog_7_method_53_code
def yX5_lacking : MethodName := ⟨RX5, "lacking", "()I"⟩
abbrev cX5_serve : ByteArray := prog_7_method_54_code
def yX5_serve : MethodName := ⟨RX5, "serve", "(I)I"⟩
abbrev cX5_signs : ByteArray := prog_7_method_55_code
def yX5_signs : MethodName := ⟨RX5, "signs", "(I)I"⟩
abbrev cX5_best : ByteArray := prog_7_method_56_code
def yX5_best : MethodName := ⟨RX5, "best", "(II)I"⟩
abbrev cX5_refusesOne : ByteArray := prog_7_method_57_code
def yX5_refusesOne : MethodName := ⟨RX5, "refusesOne", "()I"⟩
abbrev cX5_run : ByteArray := prog_7_method_58_code
def yX5_run : MethodName := ⟨RX5, "run", "(I)I"⟩
abbrev cX5_servesAll : ByteArray := prog_7_method_59_code
def yX5_servesAll : MethodName := ⟨RX5, "servesAll", "(II)Z"⟩
abbrev cX5_stock : ByteArray := prog_7_method_60_code
def yX5_stock : MethodName := ⟨RX5, "stock", "(I)I"⟩
abbrev cX5_throughOf : ByteArray := prog_7_method_61_code
def yX5_throughOf : MethodName := ⟨RX5, "throughOf", "([II)I"⟩
abbrev cX5_borrow : ByteArray := prog_7_method_62_code
def yX5_borrow : MethodName := ⟨RX5, "borrow", "(II)I"⟩
abbrev cX5_sweep : ByteArray := prog_7_method_63_code
def yX5_sweep : MethodName := ⟨RX5, "sweep", "(II)I"⟩
abbrev cX5_grain : ByteArray := prog_7_method_64_code
def yX5_grain : MethodName := ⟨RX5, "grain", "(I)I"⟩
abbrev cX5_shares : ByteArray := prog_7_method_65_code
def yX5_shares : MethodName := ⟨RX5, "shares", "(I)I"⟩
abbrev cX5_richest : ByteArray := prog_7_method_66_code
def yX5_richest : MethodName := ⟨RX5, "richest", "()I"⟩
abbrev cX5_trusted : ByteArray := prog_7_method_67_code
def yX5_trusted : MethodName := ⟨RX5, "trusted", "(I)I"⟩
abbrev cX5_worth : ByteArray := prog_7_method_68_code
def yX5_worth : MethodName := ⟨RX5, "worth", "()I"⟩
abbrev cX5_ownBy : ByteArray := prog_7_method_69_code
def yX5_ownBy : MethodName := ⟨RX5, "ownBy", "(IIIIII)I"⟩
abbrev cX5_two : ByteArray := prog_7_method_70_code
def yX5_two : MethodName := ⟨RX5, "two", "(III)I"⟩
abbrev cX5_gcd : ByteArray := prog_7_method_71_code
def yX5_gcd : MethodName := ⟨RX5, "gcd", "(JJ)J"⟩
abbrev cX5_partOf : ByteArray := prog_7_method_72_code
def yX5_partOf : MethodName := ⟨RX5, "partOf", "(JJI)J"⟩
abbrev cX5_slip : ByteArray := prog_7_method_73_code
def yX5_slip : MethodName := ⟨RX5, "slip", "(IIIII)J"⟩
abbrev cX5_mean : ByteArray := prog_7_method_74_code
def yX5_mean : MethodName := ⟨RX5, "mean", "(I)J"⟩
abbrev cX5_whatIs : ByteArray := prog_7_method_75_code
def yX5_whatIs : MethodName := ⟨RX5, "whatIs", "(II)I"⟩
abbrev cX5_row : ByteArray := prog_7_method_76_code
def yX5_row : MethodName := ⟨RX5, "row", "(I)I"⟩
abbrev cX5_judge : ByteArray := prog_7_method_77_code
def yX5_judge : MethodName := ⟨RX5, "judge", "()I"⟩
abbrev cX5_clear : ByteArray := prog_7_method_78_code
def yX5_clear : MethodName := ⟨RX5, "clear", "()I"⟩
abbrev cX5_drawn : ByteArray := prog_7_method_79_code
def yX5_drawn : MethodName := ⟨RX5, "drawn", "(I)I"⟩
abbrev cX5_lots : ByteArray := prog_7_method_80_code
def yX5_lots : MethodName := ⟨RX5, "lots", "(III)I"⟩
abbrev cX5_image : ByteArray := prog_7_method_81_code
def yX5_image : MethodName := ⟨RX5, "image", "()I"⟩
abbrev cX5_on : ByteArray := prog_7_method_82_code
def yX5_on : MethodName := ⟨RX5, "on", "()I"⟩
abbrev cX5_count : ByteArray := prog_7_method_83_code
def yX5_count : MethodName := ⟨RX5, "count", "(I)I"⟩
def RJ11 : String := "java/lang/Character"
def TJ11 : u_T := fun k => match k with
  | _ => ("", "", "", false)
def tyJ11 : Nat → FieldType := fun k => match k with
  | _ => .int
abbrev wsJ110 : List Cond := u_ws RJ11 TJ11 0
theorem nmJ11 : ∀ a, a < 0 → ∀ b, b < 0 → a ≠ b → (TJ11 a).2.1 ≠ (TJ11 b).2.1 := by decide +kernel
theorem tyJ11_ok : ∀ k, k < 0 → parseFieldDescriptor (TJ11 k).2.2.1 = some (tyJ11 k) := by decide +kernel
abbrev cJ11_isValidCodePoint_9a6ad : ByteArray := prog_8_method_11_code
def yJ11_isValidCodePoint_9a6ad : MethodName := ⟨RJ11, "isValidCodePoint", "(I)Z"⟩
abbrev cJ11_highSurrogate_5068e : ByteArray := prog_8_method_28_code
def yJ11_highSurrogate_5068e : MethodName := ⟨RJ11, "highSurrogate", "(I)C"⟩
abbrev cJ11_lowSurrogate_5068e : ByteArray := prog_8_method_29_code
def yJ11_lowSurrogate_5068e : MethodName := ⟨RJ11, "lowSurrogate", "(I)C"⟩
def RJ6 : String := "java/lang/Integer"
def TJ6 : u_T := fun k => match k with
  | _ => ("", "", "", false)
def tyJ6 : Nat → FieldType := fun k => match k with
  | _ => .int
abbrev wsJ60 : List Cond := u_ws RJ6 TJ6 0
theorem nmJ6 : ∀ a, a < 0 → ∀ b, b < 0 → a ≠ b → (TJ6 a).2.1 ≠ (TJ6 b).2.1 := by decide +kernel
theorem tyJ6_ok : ∀ k, k < 0 → parseFieldDescriptor (TJ6 k).2.2.1 = some (tyJ6 k) := by decide +kernel
abbrev cJ6_bitCount_0f7a4 : ByteArray := prog_9_method_49_code
def yJ6_bitCount_0f7a4 : MethodName := ⟨RJ6, "bitCount", "(I)I"⟩
def RJ9 : String := "java/lang/Math"
def TJ9 : u_T := fun k => match k with
  | _ => ("", "", "", false)
def tyJ9 : Nat → FieldType := fun k => match k with
  | _ => .int
abbrev wsJ90 : List Cond := u_ws RJ9 TJ9 0
theorem nmJ9 : ∀ a, a < 0 → ∀ b, b < 0 → a ≠ b → (TJ9 a).2.1 ≠ (TJ9 b).2.1 := by decide +kernel
theorem tyJ9_ok : ∀ k, k < 0 → parseFieldDescriptor (TJ9 k).2.2.1 = some (tyJ9 k) := by decide +kernel
abbrev cJ9_max_7cf53 : ByteArray := prog_10_method_65_code
def yJ9_max_7cf53 : MethodName := ⟨RJ9, "max", "(II)I"⟩
abbrev cJ9_min_7cf53 : ByteArray := prog_10_method_69_code
def yJ9_min_7cf53 : MethodName := ⟨RJ9, "min", "(II)I"⟩
def RJ0 : String := "java/lang/String"
def TJ0 : u_T := fun k => match k with
  | _ => ("", "", "", false)
def tyJ0 : Nat → FieldType := fun k => match k with
  | _ => .int
abbrev wsJ00 : List Cond := u_ws RJ0 TJ0 0
theorem nmJ0 : ∀ a, a < 0 → ∀ b, b < 0 → a ≠ b → (TJ0 a).2.1 ≠ (TJ0 b).2.1 := by decide +kernel
theorem tyJ0_ok : ∀ k, k < 0 → parseFieldDescriptor (TJ0 k).2.2.1 = some (tyJ0 k) := by decide +kernel
abbrev cJ0_length_8abf5 : ByteArray := prog_11_method_54_code
def yJ0_length_8abf5 : MethodName := ⟨RJ0, "length", "()I"⟩
abbrev cJ0_isEmpty_aae02 : ByteArray := prog_11_method_55_code
def yJ0_isEmpty_aae02 : MethodName := ⟨RJ0, "isEmpty", "()Z"⟩
abbrev cJ0_charAt_5068e : ByteArray := prog_11_method_56_code
def yJ0_charAt_5068e : MethodName := ⟨RJ0, "charAt", "(I)C"⟩
abbrev cJ0_indexOf_0f7a4 : ByteArray := prog_11_method_79_code
def yJ0_indexOf_0f7a4 : MethodName := ⟨RJ0, "indexOf", "(I)I"⟩
abbrev cJ0_indexOf_7cf53 : ByteArray := prog_11_method_80_code
def yJ0_indexOf_7cf53 : MethodName := ⟨RJ0, "indexOf", "(II)I"⟩
abbrev cJ0_coder_7d493 : ByteArray := prog_11_method_152_code
def yJ0_coder_7d493 : MethodName := ⟨RJ0, "coder", "()B"⟩
abbrev cJ0_isLatin1_aae02 : ByteArray := prog_11_method_154_code
def yJ0_isLatin1_aae02 : MethodName := ⟨RJ0, "isLatin1", "()Z"⟩
abbrev cJ0_checkIndex_df160 : ByteArray := prog_11_method_155_code
def yJ0_checkIndex_df160 : MethodName := ⟨RJ0, "checkIndex", "(II)V"⟩
abbrev cJ0_checkBoundsBeginEnd_23922 : ByteArray := prog_11_method_158_code
def yJ0_checkBoundsBeginEnd_23922 : MethodName := ⟨RJ0, "checkBoundsBeginEnd", "(III)V"⟩
def RJ1 : String := "java/lang/StringLatin1"
def TJ1 : u_T := fun k => match k with
  | _ => ("", "", "", false)
def tyJ1 : Nat → FieldType := fun k => match k with
  | _ => .int
abbrev wsJ10 : List Cond := u_ws RJ1 TJ1 0
theorem nmJ1 : ∀ a, a < 0 → ∀ b, b < 0 → a ≠ b → (TJ1 a).2.1 ≠ (TJ1 b).2.1 := by decide +kernel
theorem tyJ1_ok : ∀ k, k < 0 → parseFieldDescriptor (TJ1 k).2.2.1 = some (tyJ1 k) := by decide +kernel
abbrev cJ1_charAt_3b067 : ByteArray := prog_12_method_2_code
def yJ1_charAt_3b067 : MethodName := ⟨RJ1, "charAt", "([BI)C"⟩
abbrev cJ1_canEncode_9a6ad : ByteArray := prog_12_method_4_code
def yJ1_canEncode_9a6ad : MethodName := ⟨RJ1, "canEncode", "(I)Z"⟩
abbrev cJ1_indexOf_4cfef : ByteArray := prog_12_method_22_code
def yJ1_indexOf_4cfef : MethodName := ⟨RJ1, "indexOf", "([BIII)I"⟩
abbrev cJ1_indexOfChar_4cfef : ByteArray := prog_12_method_23_code
def yJ1_indexOfChar_4cfef : MethodName := ⟨RJ1, "indexOfChar", "([BIII)I"⟩
def RJ2 : String := "java/lang/StringUTF16"
def TJ2 : u_T := fun k => match k with
  | _ => ("", "", "", false)
def tyJ2 : Nat → FieldType := fun k => match k with
  | _ => .int
abbrev wsJ20 : List Cond := u_ws RJ2 TJ2 0
theorem nmJ2 : ∀ a, a < 0 → ∀ b, b < 0 → a ≠ b → (TJ2 a).2.1 ≠ (TJ2 b).2.1 := by decide +kernel
theorem tyJ2_ok : ∀ k, k < 0 → parseFieldDescriptor (TJ2 k).2.2.1 = some (tyJ2 k) := by decide +kernel
abbrev cJ2_getChar_3b067 : ByteArray := prog_13_method_5_code
def yJ2_getChar_3b067 : MethodName := ⟨RJ2, "getChar", "([BI)C"⟩
abbrev cJ2_length_9d52b : ByteArray := prog_13_method_6_code
def yJ2_length_9d52b : MethodName := ⟨RJ2, "length", "([B)I"⟩
abbrev cJ2_indexOf_4cfef : ByteArray := prog_13_method_40_code
def yJ2_indexOf_4cfef : MethodName := ⟨RJ2, "indexOf", "([BIII)I"⟩
abbrev cJ2_indexOfChar_4cfef : ByteArray := prog_13_method_47_code
def yJ2_indexOfChar_4cfef : MethodName := ⟨RJ2, "indexOfChar", "([BIII)I"⟩
abbrev cJ2_indexOfCharUnsafe_4cfef : ByteArray := prog_13_method_48_code
def yJ2_indexOfCharUnsafe_4cfef : MethodName := ⟨RJ2, "indexOfCharUnsafe", "([BIII)I"⟩
abbrev cJ2_indexOfSupplementary_4cfef : ByteArray := prog_13_method_49_code
def yJ2_indexOfSupplementary_4cfef : MethodName := ⟨RJ2, "indexOfSupplementary", "([BIII)I"⟩
abbrev cJ2_charAt_3b067 : ByteArray := prog_13_method_83_code
def yJ2_charAt_3b067 : MethodName := ⟨RJ2, "charAt", "([BI)C"⟩
abbrev cJ2_checkIndex_2214a : ByteArray := prog_13_method_91_code
def yJ2_checkIndex_2214a : MethodName := ⟨RJ2, "checkIndex", "(I[B)V"⟩
abbrev cJ2_checkBoundsBeginEnd_d044e : ByteArray := prog_13_method_93_code
def yJ2_checkBoundsBeginEnd_d044e : MethodName := ⟨RJ2, "checkBoundsBeginEnd", "(II[B)V"⟩
def RJ3 : String := "jdk/internal/util/Preconditions"
def TJ3 : u_T := fun k => match k with
  | _ => ("", "", "", false)
def tyJ3 : Nat → FieldType := fun k => match k with
  | _ => .int
abbrev wsJ30 : List Cond := u_ws RJ3 TJ3 0
theorem nmJ3 : ∀ a, a < 0 → ∀ b, b < 0 → a ≠ b → (TJ3 a).2.1 ≠ (TJ3 b).2.1 := by decide +kernel
theorem tyJ3_ok : ∀ k, k < 0 → parseFieldDescriptor (TJ3 k).2.2.1 = some (tyJ3 k) := by decide +kernel
abbrev cJ3_checkIndex_8e157 : ByteArray := prog_14_method_11_code
def yJ3_checkIndex_8e157 : MethodName := ⟨RJ3, "checkIndex", "(IILjava/util/function/BiFunction;)I"⟩
abbrev cJ3_checkFromToIndex_8c36e : ByteArray := prog_14_method_12_code
def yJ3_checkFromToIndex_8c36e : MethodName := ⟨RJ3, "checkFromToIndex", "(IIILjava/util/function/BiFunction;)I"⟩
def RL : String := "GritIsIssuedLaw"
abbrev cL_law : ByteArray := code
def yL_law : MethodName := ⟨RL, "law", "([I)Z"⟩
def wsX0_needs : List Cond := .code yX0_needs cX0_needs 4 (some .int) :: ([])
def wsX0_wears : List Cond := .code yX0_wears cX0_wears 2 (some .int) :: ([])
def wsX0_nextIn : List Cond := .code yX0_nextIn cX0_nextIn 2 (some .int) :: ([])
def wsX2_init : List Cond := .code yX2_init cX2_init 1 none :: ([.methodLink RX2 3 objectInit, .instanceMethod objectInit, .code objectInit ⟨#[0xb1]⟩ 1 none])
def wsX1_init : List Cond := .code yX1_init cX1_init 2 none :: ([.methodLink RX1 3 objectInit, .instanceMethod objectInit, .code objectInit ⟨#[0xb1]⟩ 1 none, .classLink RX1 9 RX2, .fieldLink RX1 11 "GritIsIssued$Office" "room" "[LGritIsIssued$Person;", .instantiable RX2 8, .initialized RX2, .fieldLink RX1 18 "GritIsIssued$Office" "nobody" "LGritIsIssued$Person;", .instanceMethod yX2_init, .code yX2_init cX2_init 1 none, .methodLink RX2 3 objectInit] ++ wsX10 ++ wsX20)
def wsX1_knows : List Cond := .code yX1_knows cX1_knows 2 (some .boolean) :: ([.fieldLink RX1 22 "GritIsIssued$Office" "people" "I"] ++ wsX10)
def wsX1_at : List Cond := .code yX1_at cX1_at 2 (some (.object "GritIsIssued$Person")) :: ([.fieldLink RX1 11 "GritIsIssued$Office" "room" "[LGritIsIssued$Person;", .fieldLink RX1 18 "GritIsIssued$Office" "nobody" "LGritIsIssued$Person;"] ++ wsX10)
def wsX2_takeFrom : List Cond := .code yX2_takeFrom cX2_takeFrom 2 none :: ([.fieldLink RX2 9 "GritIsIssued$Person" "kind" "I", .fieldLink RX2 15 "GritIsIssued$Person" "figure" "I", .fieldLink RX2 18 "GritIsIssued$Person" "has" "I", .fieldLink RX2 21 "GritIsIssued$Person" "due" "I", .fieldLink RX2 24 "GritIsIssued$Person" "through" "I", .fieldLink RX2 27 "GritIsIssued$Person" "shorts" "I", .fieldLink RX2 30 "GritIsIssued$Person" "passed" "I", .fieldLink RX2 33 "GritIsIssued$Person" "missed" "I"] ++ wsX20)
def wsX1_takeFrom : List Cond := .code yX1_takeFrom cX1_takeFrom 3 none :: ([.fieldLink RX1 22 "GritIsIssued$Office" "people" "I", .fieldLink RX1 26 "GritIsIssued$Office" "store" "I", .fieldLink RX1 29 "GritIsIssued$Office" "worn" "I", .fieldLink RX1 32 "GritIsIssued$Office" "day" "I", .methodLink RX1 35 yX1_at, .instanceMethod yX1_at, .selects RX1 yX1_at yX1_at, .initialized RX1, .code yX1_at cX1_at 2 (some (.object "GritIsIssued$Person")), .fieldLink RX1 11 "GritIsIssued$Office" "room" "[LGritIsIssued$Person;", .fieldLink RX1 18 "GritIsIssued$Office" "nobody" "LGritIsIssued$Person;", .methodLink RX1 39 yX2_takeFrom, .instanceMethod yX2_takeFrom, .selects RX2 yX2_takeFrom yX2_takeFrom, .initialized RX2, .code yX2_takeFrom cX2_takeFrom 2 none, .fieldLink RX2 9 "GritIsIssued$Person" "kind" "I", .fieldLink RX2 15 "GritIsIssued$Person" "figure" "I", .fieldLink RX2 18 "GritIsIssued$Person" "has" "I", .fieldLink RX2 21 "GritIsIssued$Person" "due" "I", .fieldLink RX2 24 "GritIsIssued$Person" "through" "I", .fieldLink RX2 27 "GritIsIssued$Person" "shorts" "I", .fieldLink RX2 30 "GritIsIssued$Person" "passed" "I", .fieldLink RX2 33 "GritIsIssued$Person" "missed" "I"] ++ wsX10 ++ wsX20)
def wsX1_welcome : List Cond := .code yX1_welcome cX1_welcome 5 (some .boolean) :: ([.fieldLink RX1 22 "GritIsIssued$Office" "people" "I", .fieldLink RX1 11 "GritIsIssued$Office" "room" "[LGritIsIssued$Person;", .fieldLink RX1 18 "GritIsIssued$Office" "nobody" "LGritIsIssued$Person;", .fieldLink RX1 43 "GritIsIssued$Person" "kind" "I", .fieldLink RX1 46 "GritIsIssued$Person" "figure" "I", .fieldLink RX1 49 "GritIsIssued$Person" "due" "I", .methodLink RX1 35 yX1_at, .instanceMethod yX1_at, .selects RX1 yX1_at yX1_at, .initialized RX1, .code yX1_at cX1_at 2 (some (.object "GritIsIssued$Person")), .methodLink RX1 39 yX2_takeFrom, .instanceMethod yX2_takeFrom, .selects RX2 yX2_takeFrom yX2_takeFrom, .initialized RX2, .code yX2_takeFrom cX2_takeFrom 2 none, .fieldLink RX2 9 "GritIsIssued$Person" "kind" "I", .fieldLink RX2 15 "GritIsIssued$Person" "figure" "I", .fieldLink RX2 18 "GritIsIssued$Person" "has" "I", .fieldLink RX2 21 "GritIsIssued$Person" "due" "I", .fieldLink RX2 24 "GritIsIssued$Person" "through" "I", .fieldLink RX2 27 "GritIsIssued$Person" "shorts" "I", .fieldLink RX2 30 "GritIsIssued$Person" "passed" "I", .fieldLink RX2 33 "GritIsIssued$Person" "missed" "I"] ++ wsX10 ++ wsX20)
def wsX1_issue : List Cond := .code yX1_issue cX1_issue 3 (some .boolean) :: ([.fieldLink RX1 26 "GritIsIssued$Office" "store" "I", .fieldLink RX1 56 "GritIsIssued$Person" "has" "I", .methodLink RX1 52 yX1_knows, .instanceMethod yX1_knows, .selects RX1 yX1_knows yX1_knows, .initialized RX1, .code yX1_knows cX1_knows 2 (some .boolean), .fieldLink RX1 22 "GritIsIssued$Office" "people" "I", .methodLink RX1 35 yX1_at, .instanceMethod yX1_at, .selects RX1 yX1_at yX1_at, .code yX1_at cX1_at 2 (some (.object "GritIsIssued$Person")), .fieldLink RX1 11 "GritIsIssued$Office" "room" "[LGritIsIssued$Person;", .fieldLink RX1 18 "GritIsIssued$Office" "nobody" "LGritIsIssued$Person;"] ++ wsX10 ++ wsX20)
def wsX1_wear : List Cond := .code yX1_wear cX1_wear 2 none :: ([.fieldLink RX1 29 "GritIsIssued$Office" "worn" "I", .methodLink RX1 59 Lib.Math.min.name, .static Lib.Math.min.name, .initialized "java/lang/Math", .code Lib.Math.min.name Lib.Math.min.code 2 (some .int)] ++ wsX10)
def wsX1_handIn : List Cond := .code yX1_handIn cX1_handIn 3 (some .boolean) :: ([.fieldLink RX1 26 "GritIsIssued$Office" "store" "I", .fieldLink RX1 56 "GritIsIssued$Person" "has" "I", .methodLink RX1 59 Lib.Math.min.name, .static Lib.Math.min.name, .initialized "java/lang/Math", .code Lib.Math.min.name Lib.Math.min.code 2 (some .int), .methodLink RX1 52 yX1_knows, .instanceMethod yX1_knows, .selects RX1 yX1_knows yX1_knows, .initialized RX1, .code yX1_knows cX1_knows 2 (some .boolean), .fieldLink RX1 22 "GritIsIssued$Office" "people" "I", .methodLink RX1 35 yX1_at, .instanceMethod yX1_at, .selects RX1 yX1_at yX1_at, .code yX1_at cX1_at 2 (some (.object "GritIsIssued$Person")), .fieldLink RX1 11 "GritIsIssued$Office" "room" "[LGritIsIssued$Person;", .fieldLink RX1 18 "GritIsIssued$Office" "nobody" "LGritIsIssued$Person;", .methodLink RX1 65 yX1_wear, .instanceMethod yX1_wear, .selects RX1 yX1_wear yX1_wear, .code yX1_wear cX1_wear 2 none, .fieldLink RX1 29 "GritIsIssued$Office" "worn" "I"] ++ wsX10 ++ wsX20)
def wsX1_setDue : List Cond := .code yX1_setDue cX1_setDue 3 (some .boolean) :: ([.fieldLink RX1 49 "GritIsIssued$Person" "due" "I", .methodLink RX1 52 yX1_knows, .instanceMethod yX1_knows, .selects RX1 yX1_knows yX1_knows, .initialized RX1, .code yX1_knows cX1_knows 2 (some .boolean), .fieldLink RX1 22 "GritIsIssued$Office" "people" "I", .methodLink RX1 35 yX1_at, .instanceMethod yX1_at, .selects RX1 yX1_at yX1_at, .code yX1_at cX1_at 2 (some (.object "GritIsIssued$Person")), .fieldLink RX1 11 "GritIsIssued$Office" "room" "[LGritIsIssued$Person;", .fieldLink RX1 18 "GritIsIssued$Office" "nobody" "LGritIsIssued$Person;"] ++ wsX20 ++ wsX10)
def wsX1_fill : List Cond := .code yX1_fill cX1_fill 2 (some .boolean) :: ([.fieldLink RX1 26 "GritIsIssued$Office" "store" "I"] ++ wsX10)
def wsX2_oneDay : List Cond := .code yX2_oneDay cX2_oneDay 3 (some .int) :: ([.fieldLink RX2 21 "GritIsIssued$Person" "due" "I", .fieldLink RX2 9 "GritIsIssued$Person" "kind" "I", .fieldLink RX2 15 "GritIsIssued$Person" "figure" "I", .fieldLink RX2 18 "GritIsIssued$Person" "has" "I", .fieldLink RX2 30 "GritIsIssued$Person" "passed" "I", .fieldLink RX2 24 "GritIsIssued$Person" "through" "I", .methodLink RX2 51 Lib.Math.min.name, .static Lib.Math.min.name, .initialized "java/lang/Math", .code Lib.Math.min.name Lib.Math.min.code 2 (some .int), .fieldLink RX2 33 "GritIsIssued$Person" "missed" "I", .fieldLink RX2 27 "GritIsIssued$Person" "shorts" "I", .methodLink RX2 36 yX0_needs, .static yX0_needs, .initialized RX0, .code yX0_needs cX0_needs 4 (some .int), .methodLink RX2 54 yX0_wears, .static yX0_wears, .code yX0_wears cX0_wears 2 (some .int), .methodLink RX2 57 yX0_nextIn, .static yX0_nextIn, .code yX0_nextIn cX0_nextIn 2 (some .int)] ++ wsX20)
def wsX1_daysGoBy_r1 : List Cond := [Cond.fieldLink RX1 32 "GritIsIssued$Office" "day" "I", Cond.fieldLink RX1 22 "GritIsIssued$Office" "people" "I", Cond.methodLink RX1 35 yX1_at, Cond.instanceMethod yX1_at, Cond.selects RX1 yX1_at yX1_at, Cond.initialized RX1, Cond.code yX1_at cX1_at 2 (some (.object "GritIsIssued$Person")), Cond.fieldLink RX1 11 "GritIsIssued$Office" "room" "[LGritIsIssued$Person;", Cond.fieldLink RX1 18 "GritIsIssued$Office" "nobody" "LGritIsIssued$Person;", Cond.methodLink RX1 72 yX2_oneDay, Cond.instanceMethod yX2_oneDay, Cond.selects RX2 yX2_oneDay yX2_oneDay, Cond.initialized RX2, Cond.code yX2_oneDay cX2_oneDay 3 (some .int), Cond.fieldLink RX2 21 "GritIsIssued$Person" "due" "I", Cond.fieldLink RX2 9 "GritIsIssued$Person" "kind" "I", Cond.fieldLink RX2 15 "GritIsIssued$Person" "figure" "I", Cond.fieldLink RX2 18 "GritIsIssued$Person" "has" "I", Cond.fieldLink RX2 30 "GritIsIssued$Person" "passed" "I", Cond.fieldLink RX2 24 "GritIsIssued$Person" "through" "I", Cond.methodLink RX2 51 Lib.Math.min.name, Cond.static Lib.Math.min.name, Cond.initialized "java/lang/Math", Cond.code Lib.Math.min.name Lib.Math.min.code 2 (some .int)]
def wsX1_daysGoBy_r2 : List Cond := [Cond.fieldLink RX2 33 "GritIsIssued$Person" "missed" "I", Cond.fieldLink RX2 27 "GritIsIssued$Person" "shorts" "I", Cond.methodLink RX2 36 yX0_needs, Cond.static yX0_needs, Cond.initialized RX0, Cond.code yX0_needs cX0_needs 4 (some .int), Cond.methodLink RX2 54 yX0_wears, Cond.static yX0_wears, Cond.code yX0_wears cX0_wears 2 (some .int), Cond.methodLink RX2 57 yX0_nextIn, Cond.static yX0_nextIn, Cond.code yX0_nextIn cX0_nextIn 2 (some .int), Cond.methodLink RX1 65 yX1_wear, Cond.instanceMethod yX1_wear, Cond.selects RX1 yX1_wear yX1_wear, Cond.code yX1_wear cX1_wear 2 none, Cond.fieldLink RX1 29 "GritIsIssued$Office" "worn" "I", Cond.methodLink RX1 59 Lib.Math.min.name]
def wsX1_daysGoBy : List Cond := .code yX1_daysGoBy cX1_daysGoBy 4 none :: ((wsX1_daysGoBy_r1 ++ wsX1_daysGoBy_r2) ++ wsX10 ++ wsX20)
def wsX1_daysCome_r1 : List Cond := [Cond.fieldLink RX1 32 "GritIsIssued$Office" "day" "I", Cond.methodLink RX1 69 yX1_daysGoBy, Cond.instanceMethod yX1_daysGoBy, Cond.selects RX1 yX1_daysGoBy yX1_daysGoBy, Cond.initialized RX1, Cond.code yX1_daysGoBy cX1_daysGoBy 4 none, Cond.fieldLink RX1 22 "GritIsIssued$Office" "people" "I", Cond.methodLink RX1 35 yX1_at, Cond.instanceMethod yX1_at, Cond.selects RX1 yX1_at yX1_at, Cond.code yX1_at cX1_at 2 (some (.object "GritIsIssued$Person")), Cond.fieldLink RX1 11 "GritIsIssued$Office" "room" "[LGritIsIssued$Person;", Cond.fieldLink RX1 18 "GritIsIssued$Office" "nobody" "LGritIsIssued$Person;", Cond.methodLink RX1 72 yX2_oneDay, Cond.instanceMethod yX2_oneDay, Cond.selects RX2 yX2_oneDay yX2_oneDay, Cond.initialized RX2, Cond.code yX2_oneDay cX2_oneDay 3 (some .int), Cond.fieldLink RX2 21 "GritIsIssued$Person" "due" "I", Cond.fieldLink RX2 9 "GritIsIssued$Person" "kind" "I", Cond.fieldLink RX2 15 "GritIsIssued$Person" "figure" "I", Cond.fieldLink RX2 18 "GritIsIssued$Person" "has" "I", Cond.fieldLink RX2 30 "GritIsIssued$Person" "passed" "I", Cond.fieldLink RX2 24 "GritIsIssued$Person" "through" "I"]
def wsX1_daysCome_r2 : List Cond := [Cond.methodLink RX2 51 Lib.Math.min.name, Cond.static Lib.Math.min.name, Cond.initialized "java/lang/Math", Cond.code Lib.Math.min.name Lib.Math.min.code 2 (some .int), Cond.fieldLink RX2 33 "GritIsIssued$Person" "missed" "I", Cond.fieldLink RX2 27 "GritIsIssued$Person" "shorts" "I", Cond.methodLink RX2 36 yX0_needs, Cond.static yX0_needs, Cond.initialized RX0, Cond.code yX0_needs cX0_needs 4 (some .int), Cond.methodLink RX2 54 yX0_wears, Cond.static yX0_wears, Cond.code yX0_wears cX0_wears 2 (some .int), Cond.methodLink RX2 57 yX0_nextIn, Cond.static yX0_nextIn, Cond.code yX0_nextIn cX0_nextIn 2 (some .int), Cond.methodLink RX1 65 yX1_wear, Cond.instanceMethod yX1_wear, Cond.selects RX1 yX1_wear yX1_wear, Cond.code yX1_wear cX1_wear 2 none, Cond.fieldLink RX1 29 "GritIsIssued$Office" "worn" "I", Cond.methodLink RX1 59 Lib.Math.min.name]
def wsX1_daysCome : List Cond := .code yX1_daysCome cX1_daysCome 2 (some .boolean) :: ((wsX1_daysCome_r1 ++ wsX1_daysCome_r2) ++ wsX10 ++ wsX20)
def wsX2_needed : List Cond := .code yX2_needed cX2_needed 1 (some .int) :: ([.fieldLink RX2 9 "GritIsIssued$Person" "kind" "I", .fieldLink RX2 15 "GritIsIssued$Person" "figure" "I", .methodLink RX2 36 yX0_needs, .static yX0_needs, .initialized RX0, .code yX0_needs cX0_needs 4 (some .int)] ++ wsX20)
def wsX2_lacking : List Cond := .code yX2_lacking cX2_lacking 1 (some .int) :: ([.fieldLink RX2 21 "GritIsIssued$Person" "due" "I", .fieldLink RX2 18 "GritIsIssued$Person" "has" "I", .methodLink RX2 46 Lib.Math.max.name, .static Lib.Math.max.name, .initialized "java/lang/Math", .code Lib.Math.max.name Lib.Math.max.code 2 (some .int), .methodLink RX2 42 yX2_needed, .instanceMethod yX2_needed, .selects RX2 yX2_needed yX2_needed, .initialized RX2, .code yX2_needed cX2_needed 1 (some .int), .fieldLink RX2 9 "GritIsIssued$Person" "kind" "I", .fieldLink RX2 15 "GritIsIssued$Person" "figure" "I", .methodLink RX2 36 yX0_needs, .static yX0_needs, .initialized RX0, .code yX0_needs cX0_needs 4 (some .int)] ++ wsX20)
def wsX1_issueAhead_r1 : List Cond := [Cond.fieldLink RX1 22 "GritIsIssued$Office" "people" "I", Cond.fieldLink RX1 49 "GritIsIssued$Person" "due" "I", Cond.methodLink RX1 35 yX1_at, Cond.instanceMethod yX1_at, Cond.selects RX1 yX1_at yX1_at, Cond.initialized RX1, Cond.code yX1_at cX1_at 2 (some (.object "GritIsIssued$Person")), Cond.fieldLink RX1 11 "GritIsIssued$Office" "room" "[LGritIsIssued$Person;", Cond.fieldLink RX1 18 "GritIsIssued$Office" "nobody" "LGritIsIssued$Person;", Cond.methodLink RX1 76 yX2_lacking, Cond.instanceMethod yX2_lacking, Cond.selects RX2 yX2_lacking yX2_lacking, Cond.initialized RX2, Cond.code yX2_lacking cX2_lacking 1 (some .int), Cond.fieldLink RX2 21 "GritIsIssued$Person" "due" "I", Cond.fieldLink RX2 18 "GritIsIssued$Person" "has" "I", Cond.methodLink RX2 46 Lib.Math.max.name, Cond.static Lib.Math.max.name, Cond.initialized "java/lang/Math", Cond.code Lib.Math.max.name Lib.Math.max.code 2 (some .int), Cond.methodLink RX2 42 yX2_needed, Cond.instanceMethod yX2_needed, Cond.selects RX2 yX2_needed yX2_needed, Cond.code yX2_needed cX2_needed 1 (some .int)]
def wsX1_issueAhead_r2 : List Cond := [Cond.fieldLink RX2 9 "GritIsIssued$Person" "kind" "I", Cond.fieldLink RX2 15 "GritIsIssued$Person" "figure" "I", Cond.methodLink RX2 36 yX0_needs, Cond.static yX0_needs, Cond.initialized RX0, Cond.code yX0_needs cX0_needs 4 (some .int), Cond.methodLink RX1 79 yX1_issue, Cond.instanceMethod yX1_issue, Cond.selects RX1 yX1_issue yX1_issue, Cond.code yX1_issue cX1_issue 3 (some .boolean), Cond.fieldLink RX1 26 "GritIsIssued$Office" "store" "I", Cond.fieldLink RX1 56 "GritIsIssued$Person" "has" "I", Cond.methodLink RX1 52 yX1_knows, Cond.instanceMethod yX1_knows, Cond.selects RX1 yX1_knows yX1_knows, Cond.code yX1_knows cX1_knows 2 (some .boolean)]
def wsX1_issueAhead : List Cond := .code yX1_issueAhead cX1_issueAhead 3 (some .int) :: ((wsX1_issueAhead_r1 ++ wsX1_issueAhead_r2) ++ wsX10 ++ wsX20)
def wsX1_firstMissing : List Cond := .code yX1_firstMissing cX1_firstMissing 2 (some .int) :: ([.fieldLink RX1 22 "GritIsIssued$Office" "people" "I", .fieldLink RX1 83 "GritIsIssued$Person" "missed" "I", .methodLink RX1 35 yX1_at, .instanceMethod yX1_at, .selects RX1 yX1_at yX1_at, .initialized RX1, .code yX1_at cX1_at 2 (some (.object "GritIsIssued$Person")), .fieldLink RX1 11 "GritIsIssued$Office" "room" "[LGritIsIssued$Person;", .fieldLink RX1 18 "GritIsIssued$Office" "nobody" "LGritIsIssued$Person;"] ++ wsX10 ++ wsX20)
def wsX1_lackAll_r1 : List Cond := [Cond.fieldLink RX1 22 "GritIsIssued$Office" "people" "I", Cond.methodLink RX1 35 yX1_at, Cond.instanceMethod yX1_at, Cond.selects RX1 yX1_at yX1_at, Cond.initialized RX1, Cond.code yX1_at cX1_at 2 (some (.object "GritIsIssued$Person")), Cond.fieldLink RX1 11 "GritIsIssued$Office" "room" "[LGritIsIssued$Person;", Cond.fieldLink RX1 18 "GritIsIssued$Office" "nobody" "LGritIsIssued$Person;", Cond.methodLink RX1 76 yX2_lacking, Cond.instanceMethod yX2_lacking, Cond.selects RX2 yX2_lacking yX2_lacking, Cond.initialized RX2, Cond.code yX2_lacking cX2_lacking 1 (some .int), Cond.fieldLink RX2 21 "GritIsIssued$Person" "due" "I", Cond.fieldLink RX2 18 "GritIsIssued$Person" "has" "I", Cond.methodLink RX2 46 Lib.Math.max.name, Cond.static Lib.Math.max.name, Cond.initialized "java/lang/Math", Cond.code Lib.Math.max.name Lib.Math.max.code 2 (some .int), Cond.methodLink RX2 42 yX2_needed, Cond.instanceMethod yX2_needed, Cond.selects RX2 yX2_needed yX2_needed, Cond.code yX2_needed cX2_needed 1 (some .int), Cond.fieldLink RX2 9 "GritIsIssued$Person" "kind" "I"]
def wsX1_lackAll_r2 : List Cond := [Cond.fieldLink RX2 15 "GritIsIssued$Person" "figure" "I", Cond.methodLink RX2 36 yX0_needs, Cond.static yX0_needs, Cond.initialized RX0, Cond.code yX0_needs cX0_needs 4 (some .int)]
def wsX1_lackAll : List Cond := .code yX1_lackAll cX1_lackAll 3 (some .boolean) :: ((wsX1_lackAll_r1 ++ wsX1_lackAll_r2) ++ wsX10 ++ wsX20)
def wsX1_lackOf_r1 : List Cond := [Cond.fieldLink RX1 22 "GritIsIssued$Office" "people" "I", Cond.methodLink RX1 35 yX1_at, Cond.instanceMethod yX1_at, Cond.selects RX1 yX1_at yX1_at, Cond.initialized RX1, Cond.code yX1_at cX1_at 2 (some (.object "GritIsIssued$Person")), Cond.fieldLink RX1 11 "GritIsIssued$Office" "room" "[LGritIsIssued$Person;", Cond.fieldLink RX1 18 "GritIsIssued$Office" "nobody" "LGritIsIssued$Person;", Cond.methodLink RX1 76 yX2_lacking, Cond.instanceMethod yX2_lacking, Cond.selects RX2 yX2_lacking yX2_lacking, Cond.initialized RX2, Cond.code yX2_lacking cX2_lacking 1 (some .int), Cond.fieldLink RX2 21 "GritIsIssued$Person" "due" "I", Cond.fieldLink RX2 18 "GritIsIssued$Person" "has" "I", Cond.methodLink RX2 46 Lib.Math.max.name, Cond.static Lib.Math.max.name, Cond.initialized "java/lang/Math", Cond.code Lib.Math.max.name Lib.Math.max.code 2 (some .int), Cond.methodLink RX2 42 yX2_needed, Cond.instanceMethod yX2_needed, Cond.selects RX2 yX2_needed yX2_needed, Cond.code yX2_needed cX2_needed 1 (some .int), Cond.fieldLink RX2 9 "GritIsIssued$Person" "kind" "I"]
def wsX1_lackOf_r2 : List Cond := [Cond.fieldLink RX2 15 "GritIsIssued$Person" "figure" "I", Cond.methodLink RX2 36 yX0_needs, Cond.static yX0_needs, Cond.initialized RX0, Cond.code yX0_needs cX0_needs 4 (some .int)]
def wsX1_lackOf : List Cond := .code yX1_lackOf cX1_lackOf 4 (some .int) :: ((wsX1_lackOf_r1 ++ wsX1_lackOf_r2) ++ wsX10 ++ wsX20)
def wsX1_allThrough : List Cond := .code yX1_allThrough cX1_allThrough 3 (some .int) :: ([.fieldLink RX1 22 "GritIsIssued$Office" "people" "I", .fieldLink RX1 86 "GritIsIssued$Person" "through" "I", .methodLink RX1 35 yX1_at, .instanceMethod yX1_at, .selects RX1 yX1_at yX1_at, .initialized RX1, .code yX1_at cX1_at 2 (some (.object "GritIsIssued$Person")), .fieldLink RX1 11 "GritIsIssued$Office" "room" "[LGritIsIssued$Person;", .fieldLink RX1 18 "GritIsIssued$Office" "nobody" "LGritIsIssued$Person;"] ++ wsX10 ++ wsX20)
def wsX1_allShort : List Cond := .code yX1_allShort cX1_allShort 3 (some .int) :: ([.fieldLink RX1 22 "GritIsIssued$Office" "people" "I", .fieldLink RX1 89 "GritIsIssued$Person" "shorts" "I", .methodLink RX1 35 yX1_at, .instanceMethod yX1_at, .selects RX1 yX1_at yX1_at, .initialized RX1, .code yX1_at cX1_at 2 (some (.object "GritIsIssued$Person")), .fieldLink RX1 11 "GritIsIssued$Office" "room" "[LGritIsIssued$Person;", .fieldLink RX1 18 "GritIsIssued$Office" "nobody" "LGritIsIssued$Person;"] ++ wsX10 ++ wsX20)
def wsX1_allHas : List Cond := .code yX1_allHas cX1_allHas 3 (some .int) :: ([.fieldLink RX1 22 "GritIsIssued$Office" "people" "I", .fieldLink RX1 56 "GritIsIssued$Person" "has" "I", .methodLink RX1 35 yX1_at, .instanceMethod yX1_at, .selects RX1 yX1_at yX1_at, .initialized RX1, .code yX1_at cX1_at 2 (some (.object "GritIsIssued$Person")), .fieldLink RX1 11 "GritIsIssued$Office" "room" "[LGritIsIssued$Person;", .fieldLink RX1 18 "GritIsIssued$Office" "nobody" "LGritIsIssued$Person;"] ++ wsX10 ++ wsX20)
def wsX1_allWithMatter : List Cond := .code yX1_allWithMatter cX1_allWithMatter 3 (some .int) :: ([.fieldLink RX1 22 "GritIsIssued$Office" "people" "I", .fieldLink RX1 49 "GritIsIssued$Person" "due" "I", .methodLink RX1 35 yX1_at, .instanceMethod yX1_at, .selects RX1 yX1_at yX1_at, .initialized RX1, .code yX1_at cX1_at 2 (some (.object "GritIsIssued$Person")), .fieldLink RX1 11 "GritIsIssued$Office" "room" "[LGritIsIssued$Person;", .fieldLink RX1 18 "GritIsIssued$Office" "nobody" "LGritIsIssued$Person;"] ++ wsX10 ++ wsX20)
def wsX3_init : List Cond := .code yX3_init cX3_init 1 none :: ([.methodLink RX3 3 objectInit, .instanceMethod objectInit, .code objectInit ⟨#[0xb1]⟩ 1 none, .arrayClass .int, .fieldLink RX3 9 "GritIsIssued$Text" "letters" "[I"] ++ wsX30)
def wsX3_add : List Cond := .code yX3_add cX3_add 2 none :: ([.fieldLink RX3 15 "GritIsIssued$Text" "count" "I", .fieldLink RX3 9 "GritIsIssued$Text" "letters" "[I"] ++ wsX30)
def wsX3_letterAt : List Cond := .code yX3_letterAt cX3_letterAt 2 (some .int) :: ([.fieldLink RX3 15 "GritIsIssued$Text" "count" "I", .fieldLink RX3 9 "GritIsIssued$Text" "letters" "[I"] ++ wsX30)
def wsJ0_isLatin1_aae02 : List Cond := .code yJ0_isLatin1_aae02 cJ0_isLatin1_aae02 1 (some .boolean) :: ([.fieldLink RJ0 38 "java/lang/String" "COMPACT_STRINGS" "Z", .fieldLink RJ0 15 "java/lang/String" "coder" "B"])
def wsJ0_coder_7d493 : List Cond := .code yJ0_coder_7d493 cJ0_coder_7d493 1 (some .byte) :: ([.fieldLink RJ0 38 "java/lang/String" "COMPACT_STRINGS" "Z", .fieldLink RJ0 15 "java/lang/String" "coder" "B"])
def wsJ0_length_8abf5 : List Cond := .code yJ0_length_8abf5 cJ0_length_8abf5 1 (some .int) :: ([.fieldLink RJ0 9 "java/lang/String" "value" "[B", .methodLink RJ0 335 yJ0_coder_7d493, .instanceMethod yJ0_coder_7d493, .selects RJ0 yJ0_coder_7d493 yJ0_coder_7d493, .initialized RJ0, .code yJ0_coder_7d493 cJ0_coder_7d493 1 (some .byte), .fieldLink RJ0 38 "java/lang/String" "COMPACT_STRINGS" "Z", .fieldLink RJ0 15 "java/lang/String" "coder" "B"])
def wsJ1_canEncode_9a6ad : List Cond := .code yJ1_canEncode_9a6ad cJ1_canEncode_9a6ad 1 (some .boolean) :: ([])
def wsJ1_indexOfChar_4cfef : List Cond := .code yJ1_indexOfChar_4cfef cJ1_indexOfChar_4cfef 6 (some .int) :: ([])
def wsJ1_indexOf_4cfef : List Cond := .code yJ1_indexOf_4cfef cJ1_indexOf_4cfef 4 (some .int) :: ([.methodLink RJ1 92 Lib.Math.max.name, .static Lib.Math.max.name, .initialized "java/lang/Math", .code Lib.Math.max.name Lib.Math.max.code 2 (some .int), .methodLink RJ1 38 Lib.Math.min.name, .static Lib.Math.min.name, .code Lib.Math.min.name Lib.Math.min.code 2 (some .int), .methodLink RJ1 88 yJ1_canEncode_9a6ad, .static yJ1_canEncode_9a6ad, .initialized RJ1, .code yJ1_canEncode_9a6ad cJ1_canEncode_9a6ad 1 (some .boolean), .methodLink RJ1 95 yJ1_indexOfChar_4cfef, .static yJ1_indexOfChar_4cfef, .code yJ1_indexOfChar_4cfef cJ1_indexOfChar_4cfef 6 (some .int)])
def wsJ2_length_9d52b : List Cond := .code yJ2_length_9d52b cJ2_length_9d52b 1 (some .int) :: ([])
def wsJ3_checkFromToIndex_8c36e : List Cond := .code yJ3_checkFromToIndex_8c36e cJ3_checkFromToIndex_8c36e 4 (some .int) :: ([])
def wsJ0_checkBoundsBeginEnd_23922 : List Cond := .code yJ0_checkBoundsBeginEnd_23922 cJ0_checkBoundsBeginEnd_23922 3 none :: ([.fieldLink RJ0 1053 "jdk/internal/util/Preconditions" "SIOOBE_FORMATTER" "Ljava/util/function/BiFunction;", .methodLink RJ0 1062 yJ3_checkFromToIndex_8c36e, .static yJ3_checkFromToIndex_8c36e, .initialized RJ3, .code yJ3_checkFromToIndex_8c36e cJ3_checkFromToIndex_8c36e 4 (some .int)])
def wsJ2_checkBoundsBeginEnd_d044e : List Cond := .code yJ2_checkBoundsBeginEnd_d044e cJ2_checkBoundsBeginEnd_d044e 3 none :: ([.methodLink RJ2 48 yJ2_length_9d52b, .static yJ2_length_9d52b, .initialized RJ2, .code yJ2_length_9d52b cJ2_length_9d52b 1 (some .int), .methodLink RJ2 241 yJ0_checkBoundsBeginEnd_23922, .static yJ0_checkBoundsBeginEnd_23922, .initialized RJ0, .code yJ0_checkBoundsBeginEnd_23922 cJ0_checkBoundsBeginEnd_23922 3 none, .fieldLink RJ0 1053 "jdk/internal/util/Preconditions" "SIOOBE_FORMATTER" "Ljava/util/function/BiFunction;", .methodLink RJ0 1062 yJ3_checkFromToIndex_8c36e, .static yJ3_checkFromToIndex_8c36e, .initialized RJ3, .code yJ3_checkFromToIndex_8c36e cJ3_checkFromToIndex_8c36e 4 (some .int)])
def wsJ2_getChar_3b067 : List Cond := .code yJ2_getChar_3b067 cJ2_getChar_3b067 2 (some .char) :: ([.fieldLink RJ2 44 "java/lang/StringUTF16" "$assertionsDisabled" "Z", .fieldLink RJ2 59 "java/lang/StringUTF16" "HI_BYTE_SHIFT" "I", .fieldLink RJ2 63 "java/lang/StringUTF16" "LO_BYTE_SHIFT" "I", .methodLink RJ2 48 yJ2_length_9d52b, .static yJ2_length_9d52b, .initialized RJ2, .code yJ2_length_9d52b cJ2_length_9d52b 1 (some .int)])
def wsJ2_indexOfCharUnsafe_4cfef : List Cond := .code yJ2_indexOfCharUnsafe_4cfef cJ2_indexOfCharUnsafe_4cfef 5 (some .int) :: ([.methodLink RJ2 71 yJ2_getChar_3b067, .static yJ2_getChar_3b067, .initialized RJ2, .code yJ2_getChar_3b067 cJ2_getChar_3b067 2 (some .char), .fieldLink RJ2 44 "java/lang/StringUTF16" "$assertionsDisabled" "Z", .fieldLink RJ2 59 "java/lang/StringUTF16" "HI_BYTE_SHIFT" "I", .fieldLink RJ2 63 "java/lang/StringUTF16" "LO_BYTE_SHIFT" "I", .methodLink RJ2 48 yJ2_length_9d52b, .static yJ2_length_9d52b, .code yJ2_length_9d52b cJ2_length_9d52b 1 (some .int)])
def wsJ2_indexOfChar_4cfef_r1 : List Cond := [Cond.methodLink RJ2 96 yJ2_checkBoundsBeginEnd_d044e, Cond.static yJ2_checkBoundsBeginEnd_d044e, Cond.initialized RJ2, Cond.code yJ2_checkBoundsBeginEnd_d044e cJ2_checkBoundsBeginEnd_d044e 3 none, Cond.methodLink RJ2 48 yJ2_length_9d52b, Cond.static yJ2_length_9d52b, Cond.code yJ2_length_9d52b cJ2_length_9d52b 1 (some .int), Cond.methodLink RJ2 241 yJ0_checkBoundsBeginEnd_23922, Cond.static yJ0_checkBoundsBeginEnd_23922, Cond.initialized RJ0, Cond.code yJ0_checkBoundsBeginEnd_23922 cJ0_checkBoundsBeginEnd_23922 3 none, Cond.fieldLink RJ0 1053 "jdk/internal/util/Preconditions" "SIOOBE_FORMATTER" "Ljava/util/function/BiFunction;", Cond.methodLink RJ0 1062 yJ3_checkFromToIndex_8c36e, Cond.static yJ3_checkFromToIndex_8c36e, Cond.initialized RJ3, Cond.code yJ3_checkFromToIndex_8c36e cJ3_checkFromToIndex_8c36e 4 (some .int), Cond.methodLink RJ2 244 yJ2_indexOfCharUnsafe_4cfef, Cond.static yJ2_indexOfCharUnsafe_4cfef, Cond.code yJ2_indexOfCharUnsafe_4cfef cJ2_indexOfCharUnsafe_4cfef 5 (some .int), Cond.methodLink RJ2 71 yJ2_getChar_3b067, Cond.static yJ2_getChar_3b067, Cond.code yJ2_getChar_3b067 cJ2_getChar_3b067 2 (some .char), Cond.fieldLink RJ2 44 "java/lang/StringUTF16" "$assertionsDisabled" "Z", Cond.fieldLink RJ2 59 "java/lang/StringUTF16" "HI_BYTE_SHIFT" "I"]
def wsJ2_indexOfChar_4cfef_r2 : List Cond := [Cond.fieldLink RJ2 63 "java/lang/StringUTF16" "LO_BYTE_SHIFT" "I"]
def wsJ2_indexOfChar_4cfef : List Cond := .code yJ2_indexOfChar_4cfef cJ2_indexOfChar_4cfef 4 (some .int) :: ((wsJ2_indexOfChar_4cfef_r1 ++ wsJ2_indexOfChar_4cfef_r2))
def wsJ11_isValidCodePoint_9a6ad : List Cond := .code yJ11_isValidCodePoint_9a6ad cJ11_isValidCodePoint_9a6ad 2 (some .boolean) :: ([])
def wsJ11_highSurrogate_5068e : List Cond := .code yJ11_highSurrogate_5068e cJ11_highSurrogate_5068e 1 (some .char) :: ([.constant RJ11 110 (55232)])
def wsJ11_lowSurrogate_5068e : List Cond := .code yJ11_lowSurrogate_5068e cJ11_lowSurrogate_5068e 1 (some .char) :: ([.constant RJ11 76 (56320)])
def wsJ2_indexOfSupplementary_4cfef_r1 : List Cond := [Cond.methodLink RJ2 164 yJ11_isValidCodePoint_9a6ad, Cond.static yJ11_isValidCodePoint_9a6ad, Cond.initialized RJ11, Cond.code yJ11_isValidCodePoint_9a6ad cJ11_isValidCodePoint_9a6ad 2 (some .boolean), Cond.methodLink RJ2 157 yJ11_highSurrogate_5068e, Cond.static yJ11_highSurrogate_5068e, Cond.code yJ11_highSurrogate_5068e cJ11_highSurrogate_5068e 1 (some .char), Cond.constant RJ11 110 (55232), Cond.methodLink RJ2 161 yJ11_lowSurrogate_5068e, Cond.static yJ11_lowSurrogate_5068e, Cond.code yJ11_lowSurrogate_5068e cJ11_lowSurrogate_5068e 1 (some .char), Cond.constant RJ11 76 (56320), Cond.methodLink RJ2 96 yJ2_checkBoundsBeginEnd_d044e, Cond.static yJ2_checkBoundsBeginEnd_d044e, Cond.initialized RJ2, Cond.code yJ2_checkBoundsBeginEnd_d044e cJ2_checkBoundsBeginEnd_d044e 3 none, Cond.methodLink RJ2 48 yJ2_length_9d52b, Cond.static yJ2_length_9d52b, Cond.code yJ2_length_9d52b cJ2_length_9d52b 1 (some .int), Cond.methodLink RJ2 241 yJ0_checkBoundsBeginEnd_23922, Cond.static yJ0_checkBoundsBeginEnd_23922, Cond.initialized RJ0, Cond.code yJ0_checkBoundsBeginEnd_23922 cJ0_checkBoundsBeginEnd_23922 3 none, Cond.fieldLink RJ0 1053 "jdk/internal/util/Preconditions" "SIOOBE_FORMATTER" "Ljava/util/function/BiFunction;"]
def wsJ2_indexOfSupplementary_4cfef_r2 : List Cond := [Cond.methodLink RJ0 1062 yJ3_checkFromToIndex_8c36e, Cond.static yJ3_checkFromToIndex_8c36e, Cond.initialized RJ3, Cond.code yJ3_checkFromToIndex_8c36e cJ3_checkFromToIndex_8c36e 4 (some .int), Cond.methodLink RJ2 71 yJ2_getChar_3b067, Cond.static yJ2_getChar_3b067, Cond.code yJ2_getChar_3b067 cJ2_getChar_3b067 2 (some .char), Cond.fieldLink RJ2 44 "java/lang/StringUTF16" "$assertionsDisabled" "Z", Cond.fieldLink RJ2 59 "java/lang/StringUTF16" "HI_BYTE_SHIFT" "I", Cond.fieldLink RJ2 63 "java/lang/StringUTF16" "LO_BYTE_SHIFT" "I"]
def wsJ2_indexOfSupplementary_4cfef : List Cond := .code yJ2_indexOfSupplementary_4cfef cJ2_indexOfSupplementary_4cfef 7 (some .int) :: ((wsJ2_indexOfSupplementary_4cfef_r1 ++ wsJ2_indexOfSupplementary_4cfef_r2))
def wsJ2_indexOf_4cfef_r1 : List Cond := [Cond.methodLink RJ2 224 Lib.Math.max.name, Cond.static Lib.Math.max.name, Cond.initialized "java/lang/Math", Cond.code Lib.Math.max.name Lib.Math.max.code 2 (some .int), Cond.methodLink RJ2 183 Lib.Math.min.name, Cond.static Lib.Math.min.name, Cond.code Lib.Math.min.name Lib.Math.min.code 2 (some .int), Cond.constant RJ2 227 (65536), Cond.methodLink RJ2 228 yJ2_indexOfChar_4cfef, Cond.static yJ2_indexOfChar_4cfef, Cond.initialized RJ2, Cond.code yJ2_indexOfChar_4cfef cJ2_indexOfChar_4cfef 4 (some .int), Cond.methodLink RJ2 96 yJ2_checkBoundsBeginEnd_d044e, Cond.static yJ2_checkBoundsBeginEnd_d044e, Cond.code yJ2_checkBoundsBeginEnd_d044e cJ2_checkBoundsBeginEnd_d044e 3 none, Cond.methodLink RJ2 48 yJ2_length_9d52b, Cond.static yJ2_length_9d52b, Cond.code yJ2_length_9d52b cJ2_length_9d52b 1 (some .int), Cond.methodLink RJ2 241 yJ0_checkBoundsBeginEnd_23922, Cond.static yJ0_checkBoundsBeginEnd_23922, Cond.initialized RJ0, Cond.code yJ0_checkBoundsBeginEnd_23922 cJ0_checkBoundsBeginEnd_23922 3 none, Cond.fieldLink RJ0 1053 "jdk/internal/util/Preconditions" "SIOOBE_FORMATTER" "Ljava/util/function/BiFunction;", Cond.methodLink RJ0 1062 yJ3_checkFromToIndex_8c36e]
def wsJ2_indexOf_4cfef_r2 : List Cond := [Cond.static yJ3_checkFromToIndex_8c36e, Cond.initialized RJ3, Cond.code yJ3_checkFromToIndex_8c36e cJ3_checkFromToIndex_8c36e 4 (some .int), Cond.methodLink RJ2 244 yJ2_indexOfCharUnsafe_4cfef, Cond.static yJ2_indexOfCharUnsafe_4cfef, Cond.code yJ2_indexOfCharUnsafe_4cfef cJ2_indexOfCharUnsafe_4cfef 5 (some .int), Cond.methodLink RJ2 71 yJ2_getChar_3b067, Cond.static yJ2_getChar_3b067, Cond.code yJ2_getChar_3b067 cJ2_getChar_3b067 2 (some .char), Cond.fieldLink RJ2 44 "java/lang/StringUTF16" "$assertionsDisabled" "Z", Cond.fieldLink RJ2 59 "java/lang/StringUTF16" "HI_BYTE_SHIFT" "I", Cond.fieldLink RJ2 63 "java/lang/StringUTF16" "LO_BYTE_SHIFT" "I", Cond.methodLink RJ2 232 yJ2_indexOfSupplementary_4cfef, Cond.static yJ2_indexOfSupplementary_4cfef, Cond.code yJ2_indexOfSupplementary_4cfef cJ2_indexOfSupplementary_4cfef 7 (some .int), Cond.methodLink RJ2 164 yJ11_isValidCodePoint_9a6ad, Cond.static yJ11_isValidCodePoint_9a6ad, Cond.initialized RJ11, Cond.code yJ11_isValidCodePoint_9a6ad cJ11_isValidCodePoint_9a6ad 2 (some .boolean), Cond.methodLink RJ2 157 yJ11_highSurrogate_5068e, Cond.static yJ11_highSurrogate_5068e, Cond.code yJ11_highSurrogate_5068e cJ11_highSurrogate_5068e 1 (some .char), Cond.constant RJ11 110 (55232), Cond.methodLink RJ2 161 yJ11_lowSurrogate_5068e]
def wsJ2_indexOf_4cfef_r3 : List Cond := [Cond.static yJ11_lowSurrogate_5068e, Cond.code yJ11_lowSurrogate_5068e cJ11_lowSurrogate_5068e 1 (some .char), Cond.constant RJ11 76 (56320)]
def wsJ2_indexOf_4cfef : List Cond := .code yJ2_indexOf_4cfef cJ2_indexOf_4cfef 4 (some .int) :: ((wsJ2_indexOf_4cfef_r1 ++ (wsJ2_indexOf_4cfef_r2 ++ wsJ2_indexOf_4cfef_r3)))
def wsJ0_indexOf_7cf53_r1 : List Cond := [Cond.fieldLink RJ0 9 "java/lang/String" "value" "[B", Cond.methodLink RJ0 492 yJ0_isLatin1_aae02, Cond.instanceMethod yJ0_isLatin1_aae02, Cond.selects RJ0 yJ0_isLatin1_aae02 yJ0_isLatin1_aae02, Cond.initialized RJ0, Cond.code yJ0_isLatin1_aae02 cJ0_isLatin1_aae02 1 (some .boolean), Cond.fieldLink RJ0 38 "java/lang/String" "COMPACT_STRINGS" "Z", Cond.fieldLink RJ0 15 "java/lang/String" "coder" "B", Cond.methodLink RJ0 505 yJ0_length_8abf5, Cond.instanceMethod yJ0_length_8abf5, Cond.selects RJ0 yJ0_length_8abf5 yJ0_length_8abf5, Cond.code yJ0_length_8abf5 cJ0_length_8abf5 1 (some .int), Cond.methodLink RJ0 335 yJ0_coder_7d493, Cond.instanceMethod yJ0_coder_7d493, Cond.selects RJ0 yJ0_coder_7d493 yJ0_coder_7d493, Cond.code yJ0_coder_7d493 cJ0_coder_7d493 1 (some .byte), Cond.methodLink RJ0 637 yJ1_indexOf_4cfef, Cond.static yJ1_indexOf_4cfef, Cond.initialized RJ1, Cond.code yJ1_indexOf_4cfef cJ1_indexOf_4cfef 4 (some .int), Cond.methodLink RJ1 92 Lib.Math.max.name, Cond.static Lib.Math.max.name, Cond.initialized "java/lang/Math", Cond.code Lib.Math.max.name Lib.Math.max.code 2 (some .int)]
def wsJ0_indexOf_7cf53_r2 : List Cond := [Cond.methodLink RJ1 38 Lib.Math.min.name, Cond.static Lib.Math.min.name, Cond.code Lib.Math.min.name Lib.Math.min.code 2 (some .int), Cond.methodLink RJ1 88 yJ1_canEncode_9a6ad, Cond.static yJ1_canEncode_9a6ad, Cond.code yJ1_canEncode_9a6ad cJ1_canEncode_9a6ad 1 (some .boolean), Cond.methodLink RJ1 95 yJ1_indexOfChar_4cfef, Cond.static yJ1_indexOfChar_4cfef, Cond.code yJ1_indexOfChar_4cfef cJ1_indexOfChar_4cfef 6 (some .int), Cond.methodLink RJ0 640 yJ2_indexOf_4cfef, Cond.static yJ2_indexOf_4cfef, Cond.initialized RJ2, Cond.code yJ2_indexOf_4cfef cJ2_indexOf_4cfef 4 (some .int), Cond.methodLink RJ2 224 Lib.Math.max.name, Cond.methodLink RJ2 183 Lib.Math.min.name, Cond.constant RJ2 227 (65536), Cond.methodLink RJ2 228 yJ2_indexOfChar_4cfef, Cond.static yJ2_indexOfChar_4cfef, Cond.code yJ2_indexOfChar_4cfef cJ2_indexOfChar_4cfef 4 (some .int), Cond.methodLink RJ2 96 yJ2_checkBoundsBeginEnd_d044e, Cond.static yJ2_checkBoundsBeginEnd_d044e, Cond.code yJ2_checkBoundsBeginEnd_d044e cJ2_checkBoundsBeginEnd_d044e 3 none, Cond.methodLink RJ2 48 yJ2_length_9d52b, Cond.static yJ2_length_9d52b]
def wsJ0_indexOf_7cf53_r3 : List Cond := [Cond.code yJ2_length_9d52b cJ2_length_9d52b 1 (some .int), Cond.methodLink RJ2 241 yJ0_checkBoundsBeginEnd_23922, Cond.static yJ0_checkBoundsBeginEnd_23922, Cond.code yJ0_checkBoundsBeginEnd_23922 cJ0_checkBoundsBeginEnd_23922 3 none, Cond.fieldLink RJ0 1053 "jdk/internal/util/Preconditions" "SIOOBE_FORMATTER" "Ljava/util/function/BiFunction;", Cond.methodLink RJ0 1062 yJ3_checkFromToIndex_8c36e, Cond.static yJ3_checkFromToIndex_8c36e, Cond.initialized RJ3, Cond.code yJ3_checkFromToIndex_8c36e cJ3_checkFromToIndex_8c36e 4 (some .int), Cond.methodLink RJ2 244 yJ2_indexOfCharUnsafe_4cfef, Cond.static yJ2_indexOfCharUnsafe_4cfef, Cond.code yJ2_indexOfCharUnsafe_4cfef cJ2_indexOfCharUnsafe_4cfef 5 (some .int), Cond.methodLink RJ2 71 yJ2_getChar_3b067, Cond.static yJ2_getChar_3b067, Cond.code yJ2_getChar_3b067 cJ2_getChar_3b067 2 (some .char), Cond.fieldLink RJ2 44 "java/lang/StringUTF16" "$assertionsDisabled" "Z", Cond.fieldLink RJ2 59 "java/lang/StringUTF16" "HI_BYTE_SHIFT" "I", Cond.fieldLink RJ2 63 "java/lang/StringUTF16" "LO_BYTE_SHIFT" "I", Cond.methodLink RJ2 232 yJ2_indexOfSupplementary_4cfef, Cond.static yJ2_indexOfSupplementary_4cfef, Cond.code yJ2_indexOfSupplementary_4cfef cJ2_indexOfSupplementary_4cfef 7 (some .int), Cond.methodLink RJ2 164 yJ11_isValidCodePoint_9a6ad, Cond.static yJ11_isValidCodePoint_9a6ad, Cond.initialized RJ11]
def wsJ0_indexOf_7cf53_r4 : List Cond := [Cond.code yJ11_isValidCodePoint_9a6ad cJ11_isValidCodePoint_9a6ad 2 (some .boolean), Cond.methodLink RJ2 157 yJ11_highSurrogate_5068e, Cond.static yJ11_highSurrogate_5068e, Cond.code yJ11_highSurrogate_5068e cJ11_highSurrogate_5068e 1 (some .char), Cond.constant RJ11 110 (55232), Cond.methodLink RJ2 161 yJ11_lowSurrogate_5068e, Cond.static yJ11_lowSurrogate_5068e, Cond.code yJ11_lowSurrogate_5068e cJ11_lowSurrogate_5068e 1 (some .char), Cond.constant RJ11 76 (56320)]
def wsJ0_indexOf_7cf53 : List Cond := .code yJ0_indexOf_7cf53 cJ0_indexOf_7cf53 3 (some .int) :: ((wsJ0_indexOf_7cf53_r1 ++ (wsJ0_indexOf_7cf53_r2 ++ (wsJ0_indexOf_7cf53_r3 ++ wsJ0_indexOf_7cf53_r4))))
def wsJ0_indexOf_0f7a4_r1 : List Cond := [Cond.methodLink RJ0 633 yJ0_indexOf_7cf53, Cond.instanceMethod yJ0_indexOf_7cf53, Cond.selects RJ0 yJ0_indexOf_7cf53 yJ0_indexOf_7cf53, Cond.initialized RJ0, Cond.code yJ0_indexOf_7cf53 cJ0_indexOf_7cf53 3 (some .int), Cond.fieldLink RJ0 9 "java/lang/String" "value" "[B", Cond.methodLink RJ0 492 yJ0_isLatin1_aae02, Cond.instanceMethod yJ0_isLatin1_aae02, Cond.selects RJ0 yJ0_isLatin1_aae02 yJ0_isLatin1_aae02, Cond.code yJ0_isLatin1_aae02 cJ0_isLatin1_aae02 1 (some .boolean), Cond.fieldLink RJ0 38 "java/lang/String" "COMPACT_STRINGS" "Z", Cond.fieldLink RJ0 15 "java/lang/String" "coder" "B", Cond.methodLink RJ0 505 yJ0_length_8abf5, Cond.instanceMethod yJ0_length_8abf5, Cond.selects RJ0 yJ0_length_8abf5 yJ0_length_8abf5, Cond.code yJ0_length_8abf5 cJ0_length_8abf5 1 (some .int), Cond.methodLink RJ0 335 yJ0_coder_7d493, Cond.instanceMethod yJ0_coder_7d493, Cond.selects RJ0 yJ0_coder_7d493 yJ0_coder_7d493, Cond.code yJ0_coder_7d493 cJ0_coder_7d493 1 (some .byte), Cond.methodLink RJ0 637 yJ1_indexOf_4cfef, Cond.static yJ1_indexOf_4cfef, Cond.initialized RJ1, Cond.code yJ1_indexOf_4cfef cJ1_indexOf_4cfef 4 (some .int)]
def wsJ0_indexOf_0f7a4_r2 : List Cond := [Cond.methodLink RJ1 92 Lib.Math.max.name, Cond.static Lib.Math.max.name, Cond.initialized "java/lang/Math", Cond.code Lib.Math.max.name Lib.Math.max.code 2 (some .int), Cond.methodLink RJ1 38 Lib.Math.min.name, Cond.static Lib.Math.min.name, Cond.code Lib.Math.min.name Lib.Math.min.code 2 (some .int), Cond.methodLink RJ1 88 yJ1_canEncode_9a6ad, Cond.static yJ1_canEncode_9a6ad, Cond.code yJ1_canEncode_9a6ad cJ1_canEncode_9a6ad 1 (some .boolean), Cond.methodLink RJ1 95 yJ1_indexOfChar_4cfef, Cond.static yJ1_indexOfChar_4cfef, Cond.code yJ1_indexOfChar_4cfef cJ1_indexOfChar_4cfef 6 (some .int), Cond.methodLink RJ0 640 yJ2_indexOf_4cfef, Cond.static yJ2_indexOf_4cfef, Cond.initialized RJ2, Cond.code yJ2_indexOf_4cfef cJ2_indexOf_4cfef 4 (some .int), Cond.methodLink RJ2 224 Lib.Math.max.name, Cond.methodLink RJ2 183 Lib.Math.min.name, Cond.constant RJ2 227 (65536), Cond.methodLink RJ2 228 yJ2_indexOfChar_4cfef, Cond.static yJ2_indexOfChar_4cfef, Cond.code yJ2_indexOfChar_4cfef cJ2_indexOfChar_4cfef 4 (some .int), Cond.methodLink RJ2 96 yJ2_checkBoundsBeginEnd_d044e]
def wsJ0_indexOf_0f7a4_r3 : List Cond := [Cond.static yJ2_checkBoundsBeginEnd_d044e, Cond.code yJ2_checkBoundsBeginEnd_d044e cJ2_checkBoundsBeginEnd_d044e 3 none, Cond.methodLink RJ2 48 yJ2_length_9d52b, Cond.static yJ2_length_9d52b, Cond.code yJ2_length_9d52b cJ2_length_9d52b 1 (some .int), Cond.methodLink RJ2 241 yJ0_checkBoundsBeginEnd_23922, Cond.static yJ0_checkBoundsBeginEnd_23922, Cond.code yJ0_checkBoundsBeginEnd_23922 cJ0_checkBoundsBeginEnd_23922 3 none, Cond.fieldLink RJ0 1053 "jdk/internal/util/Preconditions" "SIOOBE_FORMATTER" "Ljava/util/function/BiFunction;", Cond.methodLink RJ0 1062 yJ3_checkFromToIndex_8c36e, Cond.static yJ3_checkFromToIndex_8c36e, Cond.initialized RJ3, Cond.code yJ3_checkFromToIndex_8c36e cJ3_checkFromToIndex_8c36e 4 (some .int), Cond.methodLink RJ2 244 yJ2_indexOfCharUnsafe_4cfef, Cond.static yJ2_indexOfCharUnsafe_4cfef, Cond.code yJ2_indexOfCharUnsafe_4cfef cJ2_indexOfCharUnsafe_4cfef 5 (some .int), Cond.methodLink RJ2 71 yJ2_getChar_3b067, Cond.static yJ2_getChar_3b067, Cond.code yJ2_getChar_3b067 cJ2_getChar_3b067 2 (some .char), Cond.fieldLink RJ2 44 "java/lang/StringUTF16" "$assertionsDisabled" "Z", Cond.fieldLink RJ2 59 "java/lang/StringUTF16" "HI_BYTE_SHIFT" "I", Cond.fieldLink RJ2 63 "java/lang/StringUTF16" "LO_BYTE_SHIFT" "I", Cond.methodLink RJ2 232 yJ2_indexOfSupplementary_4cfef, Cond.static yJ2_indexOfSupplementary_4cfef]
def wsJ0_indexOf_0f7a4_r4 : List Cond := [Cond.code yJ2_indexOfSupplementary_4cfef cJ2_indexOfSupplementary_4cfef 7 (some .int), Cond.methodLink RJ2 164 yJ11_isValidCodePoint_9a6ad, Cond.static yJ11_isValidCodePoint_9a6ad, Cond.initialized RJ11, Cond.code yJ11_isValidCodePoint_9a6ad cJ11_isValidCodePoint_9a6ad 2 (some .boolean), Cond.methodLink RJ2 157 yJ11_highSurrogate_5068e, Cond.static yJ11_highSurrogate_5068e, Cond.code yJ11_highSurrogate_5068e cJ11_highSurrogate_5068e 1 (some .char), Cond.constant RJ11 110 (55232), Cond.methodLink RJ2 161 yJ11_lowSurrogate_5068e, Cond.static yJ11_lowSurrogate_5068e, Cond.code yJ11_lowSurrogate_5068e cJ11_lowSurrogate_5068e 1 (some .char), Cond.constant RJ11 76 (56320)]
def wsJ0_indexOf_0f7a4 : List Cond := .code yJ0_indexOf_0f7a4 cJ0_indexOf_0f7a4 2 (some .int) :: ((wsJ0_indexOf_0f7a4_r1 ++ (wsJ0_indexOf_0f7a4_r2 ++ (wsJ0_indexOf_0f7a4_r3 ++ wsJ0_indexOf_0f7a4_r4))))
def wsX3_kindAt_r1 : List Cond := [Cond.methodLink RX3 19 yX3_letterAt, Cond.instanceMethod yX3_letterAt, Cond.selects RX3 yX3_letterAt yX3_letterAt, Cond.initialized RX3, Cond.code yX3_letterAt cX3_letterAt 2 (some .int), Cond.fieldLink RX3 15 "GritIsIssued$Text" "count" "I", Cond.fieldLink RX3 9 "GritIsIssued$Text" "letters" "[I", Cond.methodLink RX3 25 yJ0_indexOf_0f7a4, Cond.instanceMethod yJ0_indexOf_0f7a4, Cond.selects RJ0 yJ0_indexOf_0f7a4 yJ0_indexOf_0f7a4, Cond.initialized RJ0, Cond.code yJ0_indexOf_0f7a4 cJ0_indexOf_0f7a4 2 (some .int), Cond.methodLink RJ0 633 yJ0_indexOf_7cf53, Cond.instanceMethod yJ0_indexOf_7cf53, Cond.selects RJ0 yJ0_indexOf_7cf53 yJ0_indexOf_7cf53, Cond.code yJ0_indexOf_7cf53 cJ0_indexOf_7cf53 3 (some .int), Cond.fieldLink RJ0 9 "java/lang/String" "value" "[B", Cond.methodLink RJ0 492 yJ0_isLatin1_aae02, Cond.instanceMethod yJ0_isLatin1_aae02, Cond.selects RJ0 yJ0_isLatin1_aae02 yJ0_isLatin1_aae02, Cond.code yJ0_isLatin1_aae02 cJ0_isLatin1_aae02 1 (some .boolean), Cond.fieldLink RJ0 38 "java/lang/String" "COMPACT_STRINGS" "Z", Cond.fieldLink RJ0 15 "java/lang/String" "coder" "B", Cond.methodLink RJ0 505 yJ0_length_8abf5]
def wsX3_kindAt_r2 : List Cond := [Cond.instanceMethod yJ0_length_8abf5, Cond.selects RJ0 yJ0_length_8abf5 yJ0_length_8abf5, Cond.code yJ0_length_8abf5 cJ0_length_8abf5 1 (some .int), Cond.methodLink RJ0 335 yJ0_coder_7d493, Cond.instanceMethod yJ0_coder_7d493, Cond.selects RJ0 yJ0_coder_7d493 yJ0_coder_7d493, Cond.code yJ0_coder_7d493 cJ0_coder_7d493 1 (some .byte), Cond.methodLink RJ0 637 yJ1_indexOf_4cfef, Cond.static yJ1_indexOf_4cfef, Cond.initialized RJ1, Cond.code yJ1_indexOf_4cfef cJ1_indexOf_4cfef 4 (some .int), Cond.methodLink RJ1 92 Lib.Math.max.name, Cond.static Lib.Math.max.name, Cond.initialized "java/lang/Math", Cond.code Lib.Math.max.name Lib.Math.max.code 2 (some .int), Cond.methodLink RJ1 38 Lib.Math.min.name, Cond.static Lib.Math.min.name, Cond.code Lib.Math.min.name Lib.Math.min.code 2 (some .int), Cond.methodLink RJ1 88 yJ1_canEncode_9a6ad, Cond.static yJ1_canEncode_9a6ad, Cond.code yJ1_canEncode_9a6ad cJ1_canEncode_9a6ad 1 (some .boolean), Cond.methodLink RJ1 95 yJ1_indexOfChar_4cfef, Cond.static yJ1_indexOfChar_4cfef, Cond.code yJ1_indexOfChar_4cfef cJ1_indexOfChar_4cfef 6 (some .int)]
def wsX3_kindAt_r3 : List Cond := [Cond.methodLink RJ0 640 yJ2_indexOf_4cfef, Cond.static yJ2_indexOf_4cfef, Cond.initialized RJ2, Cond.code yJ2_indexOf_4cfef cJ2_indexOf_4cfef 4 (some .int), Cond.methodLink RJ2 224 Lib.Math.max.name, Cond.methodLink RJ2 183 Lib.Math.min.name, Cond.constant RJ2 227 (65536), Cond.methodLink RJ2 228 yJ2_indexOfChar_4cfef, Cond.static yJ2_indexOfChar_4cfef, Cond.code yJ2_indexOfChar_4cfef cJ2_indexOfChar_4cfef 4 (some .int), Cond.methodLink RJ2 96 yJ2_checkBoundsBeginEnd_d044e, Cond.static yJ2_checkBoundsBeginEnd_d044e, Cond.code yJ2_checkBoundsBeginEnd_d044e cJ2_checkBoundsBeginEnd_d044e 3 none, Cond.methodLink RJ2 48 yJ2_length_9d52b, Cond.static yJ2_length_9d52b, Cond.code yJ2_length_9d52b cJ2_length_9d52b 1 (some .int), Cond.methodLink RJ2 241 yJ0_checkBoundsBeginEnd_23922, Cond.static yJ0_checkBoundsBeginEnd_23922, Cond.code yJ0_checkBoundsBeginEnd_23922 cJ0_checkBoundsBeginEnd_23922 3 none, Cond.fieldLink RJ0 1053 "jdk/internal/util/Preconditions" "SIOOBE_FORMATTER" "Ljava/util/function/BiFunction;", Cond.methodLink RJ0 1062 yJ3_checkFromToIndex_8c36e, Cond.static yJ3_checkFromToIndex_8c36e, Cond.initialized RJ3, Cond.code yJ3_checkFromToIndex_8c36e cJ3_checkFromToIndex_8c36e 4 (some .int)]
def wsX3_kindAt_r4 : List Cond := [Cond.methodLink RJ2 244 yJ2_indexOfCharUnsafe_4cfef, Cond.static yJ2_indexOfCharUnsafe_4cfef, Cond.code yJ2_indexOfCharUnsafe_4cfef cJ2_indexOfCharUnsafe_4cfef 5 (some .int), Cond.methodLink RJ2 71 yJ2_getChar_3b067, Cond.static yJ2_getChar_3b067, Cond.code yJ2_getChar_3b067 cJ2_getChar_3b067 2 (some .char), Cond.fieldLink RJ2 44 "java/lang/StringUTF16" "$assertionsDisabled" "Z", Cond.fieldLink RJ2 59 "java/lang/StringUTF16" "HI_BYTE_SHIFT" "I", Cond.fieldLink RJ2 63 "java/lang/StringUTF16" "LO_BYTE_SHIFT" "I", Cond.methodLink RJ2 232 yJ2_indexOfSupplementary_4cfef, Cond.static yJ2_indexOfSupplementary_4cfef, Cond.code yJ2_indexOfSupplementary_4cfef cJ2_indexOfSupplementary_4cfef 7 (some .int), Cond.methodLink RJ2 164 yJ11_isValidCodePoint_9a6ad, Cond.static yJ11_isValidCodePoint_9a6ad, Cond.initialized RJ11, Cond.code yJ11_isValidCodePoint_9a6ad cJ11_isValidCodePoint_9a6ad 2 (some .boolean), Cond.methodLink RJ2 157 yJ11_highSurrogate_5068e, Cond.static yJ11_highSurrogate_5068e, Cond.code yJ11_highSurrogate_5068e cJ11_highSurrogate_5068e 1 (some .char), Cond.constant RJ11 110 (55232), Cond.methodLink RJ2 161 yJ11_lowSurrogate_5068e, Cond.static yJ11_lowSurrogate_5068e, Cond.code yJ11_lowSurrogate_5068e cJ11_lowSurrogate_5068e 1 (some .char), Cond.constant RJ11 76 (56320)]
def wsX3_kindAt : List Cond := .code yX3_kindAt cX3_kindAt 3 (some .int) :: ((wsX3_kindAt_r1 ++ (wsX3_kindAt_r2 ++ (wsX3_kindAt_r3 ++ wsX3_kindAt_r4))) ++ wsX30)
def wsX3_number : List Cond := .code yX3_number cX3_number 5 (some .int) :: ([.methodLink RX3 19 yX3_letterAt, .instanceMethod yX3_letterAt, .selects RX3 yX3_letterAt yX3_letterAt, .initialized RX3, .code yX3_letterAt cX3_letterAt 2 (some .int), .fieldLink RX3 15 "GritIsIssued$Text" "count" "I", .fieldLink RX3 9 "GritIsIssued$Text" "letters" "[I"] ++ wsX30)
def wsX3_behind : List Cond := .code yX3_behind cX3_behind 1 (some (.object "java/lang/String")) :: ([])
def wsX3_lengthAt : List Cond := .code yX3_lengthAt cX3_lengthAt 2 (some .int) :: ([.methodLink RX3 19 yX3_letterAt, .instanceMethod yX3_letterAt, .selects RX3 yX3_letterAt yX3_letterAt, .initialized RX3, .code yX3_letterAt cX3_letterAt 2 (some .int), .fieldLink RX3 15 "GritIsIssued$Text" "count" "I", .fieldLink RX3 9 "GritIsIssued$Text" "letters" "[I", .methodLink RX3 30 yX3_behind, .static yX3_behind, .code yX3_behind cX3_behind 1 (some (.object "java/lang/String")), .methodLink RX3 34 yJ0_length_8abf5, .instanceMethod yJ0_length_8abf5, .selects RJ0 yJ0_length_8abf5 yJ0_length_8abf5, .initialized RJ0, .code yJ0_length_8abf5 cJ0_length_8abf5 1 (some .int), .fieldLink RJ0 9 "java/lang/String" "value" "[B", .methodLink RJ0 335 yJ0_coder_7d493, .instanceMethod yJ0_coder_7d493, .selects RJ0 yJ0_coder_7d493 yJ0_coder_7d493, .code yJ0_coder_7d493 cJ0_coder_7d493 1 (some .byte), .fieldLink RJ0 38 "java/lang/String" "COMPACT_STRINGS" "Z", .fieldLink RJ0 15 "java/lang/String" "coder" "B"] ++ wsX30)
def wsJ0_isEmpty_aae02 : List Cond := .code yJ0_isEmpty_aae02 cJ0_isEmpty_aae02 1 (some .boolean) :: ([.fieldLink RJ0 9 "java/lang/String" "value" "[B"])
def wsJ3_checkIndex_8e157 : List Cond := .code yJ3_checkIndex_8e157 cJ3_checkIndex_8e157 3 (some .int) :: ([])
def wsJ0_checkIndex_df160 : List Cond := .code yJ0_checkIndex_df160 cJ0_checkIndex_df160 2 none :: ([.fieldLink RJ0 1053 "jdk/internal/util/Preconditions" "SIOOBE_FORMATTER" "Ljava/util/function/BiFunction;", .methodLink RJ0 1059 yJ3_checkIndex_8e157, .static yJ3_checkIndex_8e157, .initialized RJ3, .code yJ3_checkIndex_8e157 cJ3_checkIndex_8e157 3 (some .int)])
def wsJ1_charAt_3b067 : List Cond := .code yJ1_charAt_3b067 cJ1_charAt_3b067 2 (some .char) :: ([.methodLink RJ1 9 yJ0_checkIndex_df160, .static yJ0_checkIndex_df160, .initialized RJ0, .code yJ0_checkIndex_df160 cJ0_checkIndex_df160 2 none, .fieldLink RJ0 1053 "jdk/internal/util/Preconditions" "SIOOBE_FORMATTER" "Ljava/util/function/BiFunction;", .methodLink RJ0 1059 yJ3_checkIndex_8e157, .static yJ3_checkIndex_8e157, .initialized RJ3, .code yJ3_checkIndex_8e157 cJ3_checkIndex_8e157 3 (some .int)])
def wsJ2_checkIndex_2214a : List Cond := .code yJ2_checkIndex_2214a cJ2_checkIndex_2214a 2 none :: ([.methodLink RJ2 48 yJ2_length_9d52b, .static yJ2_length_9d52b, .initialized RJ2, .code yJ2_length_9d52b cJ2_length_9d52b 1 (some .int), .methodLink RJ2 414 yJ0_checkIndex_df160, .static yJ0_checkIndex_df160, .initialized RJ0, .code yJ0_checkIndex_df160 cJ0_checkIndex_df160 2 none, .fieldLink RJ0 1053 "jdk/internal/util/Preconditions" "SIOOBE_FORMATTER" "Ljava/util/function/BiFunction;", .methodLink RJ0 1059 yJ3_checkIndex_8e157, .static yJ3_checkIndex_8e157, .initialized RJ3, .code yJ3_checkIndex_8e157 cJ3_checkIndex_8e157 3 (some .int)])
def wsJ2_charAt_3b067 : List Cond := .code yJ2_charAt_3b067 cJ2_charAt_3b067 2 (some .char) :: ([.methodLink RJ2 67 yJ2_checkIndex_2214a, .static yJ2_checkIndex_2214a, .initialized RJ2, .code yJ2_checkIndex_2214a cJ2_checkIndex_2214a 2 none, .methodLink RJ2 48 yJ2_length_9d52b, .static yJ2_length_9d52b, .code yJ2_length_9d52b cJ2_length_9d52b 1 (some .int), .methodLink RJ2 414 yJ0_checkIndex_df160, .static yJ0_checkIndex_df160, .initialized RJ0, .code yJ0_checkIndex_df160 cJ0_checkIndex_df160 2 none, .fieldLink RJ0 1053 "jdk/internal/util/Preconditions" "SIOOBE_FORMATTER" "Ljava/util/function/BiFunction;", .methodLink RJ0 1059 yJ3_checkIndex_8e157, .static yJ3_checkIndex_8e157, .initialized RJ3, .code yJ3_checkIndex_8e157 cJ3_checkIndex_8e157 3 (some .int), .methodLink RJ2 71 yJ2_getChar_3b067, .static yJ2_getChar_3b067, .code yJ2_getChar_3b067 cJ2_getChar_3b067 2 (some .char), .fieldLink RJ2 44 "java/lang/StringUTF16" "$assertionsDisabled" "Z", .fieldLink RJ2 59 "java/lang/StringUTF16" "HI_BYTE_SHIFT" "I", .fieldLink RJ2 63 "java/lang/StringUTF16" "LO_BYTE_SHIFT" "I"])
def wsJ0_charAt_5068e_r1 : List Cond := [Cond.fieldLink RJ0 9 "java/lang/String" "value" "[B", Cond.methodLink RJ0 492 yJ0_isLatin1_aae02, Cond.instanceMethod yJ0_isLatin1_aae02, Cond.selects RJ0 yJ0_isLatin1_aae02 yJ0_isLatin1_aae02, Cond.initialized RJ0, Cond.code yJ0_isLatin1_aae02 cJ0_isLatin1_aae02 1 (some .boolean), Cond.fieldLink RJ0 38 "java/lang/String" "COMPACT_STRINGS" "Z", Cond.fieldLink RJ0 15 "java/lang/String" "coder" "B", Cond.methodLink RJ0 495 yJ1_charAt_3b067, Cond.static yJ1_charAt_3b067, Cond.initialized RJ1, Cond.code yJ1_charAt_3b067 cJ1_charAt_3b067 2 (some .char), Cond.methodLink RJ1 9 yJ0_checkIndex_df160, Cond.static yJ0_checkIndex_df160, Cond.code yJ0_checkIndex_df160 cJ0_checkIndex_df160 2 none, Cond.fieldLink RJ0 1053 "jdk/internal/util/Preconditions" "SIOOBE_FORMATTER" "Ljava/util/function/BiFunction;", Cond.methodLink RJ0 1059 yJ3_checkIndex_8e157, Cond.static yJ3_checkIndex_8e157, Cond.initialized RJ3, Cond.code yJ3_checkIndex_8e157 cJ3_checkIndex_8e157 3 (some .int), Cond.methodLink RJ0 498 yJ2_charAt_3b067, Cond.static yJ2_charAt_3b067, Cond.initialized RJ2, Cond.code yJ2_charAt_3b067 cJ2_charAt_3b067 2 (some .char)]
def wsJ0_charAt_5068e_r2 : List Cond := [Cond.methodLink RJ2 67 yJ2_checkIndex_2214a, Cond.static yJ2_checkIndex_2214a, Cond.code yJ2_checkIndex_2214a cJ2_checkIndex_2214a 2 none, Cond.methodLink RJ2 48 yJ2_length_9d52b, Cond.static yJ2_length_9d52b, Cond.code yJ2_length_9d52b cJ2_length_9d52b 1 (some .int), Cond.methodLink RJ2 414 yJ0_checkIndex_df160, Cond.methodLink RJ2 71 yJ2_getChar_3b067, Cond.static yJ2_getChar_3b067, Cond.code yJ2_getChar_3b067 cJ2_getChar_3b067 2 (some .char), Cond.fieldLink RJ2 44 "java/lang/StringUTF16" "$assertionsDisabled" "Z", Cond.fieldLink RJ2 59 "java/lang/StringUTF16" "HI_BYTE_SHIFT" "I", Cond.fieldLink RJ2 63 "java/lang/StringUTF16" "LO_BYTE_SHIFT" "I"]
def wsJ0_charAt_5068e : List Cond := .code yJ0_charAt_5068e cJ0_charAt_5068e 2 (some .char) :: ((wsJ0_charAt_5068e_r1 ++ wsJ0_charAt_5068e_r2))
def wsX3_fits_r1 : List Cond := [Cond.methodLink RX3 19 yX3_letterAt, Cond.instanceMethod yX3_letterAt, Cond.selects RX3 yX3_letterAt yX3_letterAt, Cond.initialized RX3, Cond.code yX3_letterAt cX3_letterAt 2 (some .int), Cond.fieldLink RX3 15 "GritIsIssued$Text" "count" "I", Cond.fieldLink RX3 9 "GritIsIssued$Text" "letters" "[I", Cond.methodLink RX3 60 yX3_kindAt, Cond.instanceMethod yX3_kindAt, Cond.selects RX3 yX3_kindAt yX3_kindAt, Cond.code yX3_kindAt cX3_kindAt 3 (some .int), Cond.methodLink RX3 25 yJ0_indexOf_0f7a4, Cond.instanceMethod yJ0_indexOf_0f7a4, Cond.selects RJ0 yJ0_indexOf_0f7a4 yJ0_indexOf_0f7a4, Cond.initialized RJ0, Cond.code yJ0_indexOf_0f7a4 cJ0_indexOf_0f7a4 2 (some .int), Cond.methodLink RJ0 633 yJ0_indexOf_7cf53, Cond.instanceMethod yJ0_indexOf_7cf53, Cond.selects RJ0 yJ0_indexOf_7cf53 yJ0_indexOf_7cf53, Cond.code yJ0_indexOf_7cf53 cJ0_indexOf_7cf53 3 (some .int), Cond.fieldLink RJ0 9 "java/lang/String" "value" "[B", Cond.methodLink RJ0 492 yJ0_isLatin1_aae02, Cond.instanceMethod yJ0_isLatin1_aae02, Cond.selects RJ0 yJ0_isLatin1_aae02 yJ0_isLatin1_aae02]
def wsX3_fits_r2 : List Cond := [Cond.code yJ0_isLatin1_aae02 cJ0_isLatin1_aae02 1 (some .boolean), Cond.fieldLink RJ0 38 "java/lang/String" "COMPACT_STRINGS" "Z", Cond.fieldLink RJ0 15 "java/lang/String" "coder" "B", Cond.methodLink RJ0 505 yJ0_length_8abf5, Cond.instanceMethod yJ0_length_8abf5, Cond.selects RJ0 yJ0_length_8abf5 yJ0_length_8abf5, Cond.code yJ0_length_8abf5 cJ0_length_8abf5 1 (some .int), Cond.methodLink RJ0 335 yJ0_coder_7d493, Cond.instanceMethod yJ0_coder_7d493, Cond.selects RJ0 yJ0_coder_7d493 yJ0_coder_7d493, Cond.code yJ0_coder_7d493 cJ0_coder_7d493 1 (some .byte), Cond.methodLink RJ0 637 yJ1_indexOf_4cfef, Cond.static yJ1_indexOf_4cfef, Cond.initialized RJ1, Cond.code yJ1_indexOf_4cfef cJ1_indexOf_4cfef 4 (some .int), Cond.methodLink RJ1 92 Lib.Math.max.name, Cond.static Lib.Math.max.name, Cond.initialized "java/lang/Math", Cond.code Lib.Math.max.name Lib.Math.max.code 2 (some .int), Cond.methodLink RJ1 38 Lib.Math.min.name, Cond.static Lib.Math.min.name, Cond.code Lib.Math.min.name Lib.Math.min.code 2 (some .int), Cond.methodLink RJ1 88 yJ1_canEncode_9a6ad, Cond.static yJ1_canEncode_9a6ad]
def wsX3_fits_r3 : List Cond := [Cond.code yJ1_canEncode_9a6ad cJ1_canEncode_9a6ad 1 (some .boolean), Cond.methodLink RJ1 95 yJ1_indexOfChar_4cfef, Cond.static yJ1_indexOfChar_4cfef, Cond.code yJ1_indexOfChar_4cfef cJ1_indexOfChar_4cfef 6 (some .int), Cond.methodLink RJ0 640 yJ2_indexOf_4cfef, Cond.static yJ2_indexOf_4cfef, Cond.initialized RJ2, Cond.code yJ2_indexOf_4cfef cJ2_indexOf_4cfef 4 (some .int), Cond.methodLink RJ2 224 Lib.Math.max.name, Cond.methodLink RJ2 183 Lib.Math.min.name, Cond.constant RJ2 227 (65536), Cond.methodLink RJ2 228 yJ2_indexOfChar_4cfef, Cond.static yJ2_indexOfChar_4cfef, Cond.code yJ2_indexOfChar_4cfef cJ2_indexOfChar_4cfef 4 (some .int), Cond.methodLink RJ2 96 yJ2_checkBoundsBeginEnd_d044e, Cond.static yJ2_checkBoundsBeginEnd_d044e, Cond.code yJ2_checkBoundsBeginEnd_d044e cJ2_checkBoundsBeginEnd_d044e 3 none, Cond.methodLink RJ2 48 yJ2_length_9d52b, Cond.static yJ2_length_9d52b, Cond.code yJ2_length_9d52b cJ2_length_9d52b 1 (some .int), Cond.methodLink RJ2 241 yJ0_checkBoundsBeginEnd_23922, Cond.static yJ0_checkBoundsBeginEnd_23922, Cond.code yJ0_checkBoundsBeginEnd_23922 cJ0_checkBoundsBeginEnd_23922 3 none, Cond.fieldLink RJ0 1053 "jdk/internal/util/Preconditions" "SIOOBE_FORMATTER" "Ljava/util/function/BiFunction;"]
def wsX3_fits_r4 : List Cond := [Cond.methodLink RJ0 1062 yJ3_checkFromToIndex_8c36e, Cond.static yJ3_checkFromToIndex_8c36e, Cond.initialized RJ3, Cond.code yJ3_checkFromToIndex_8c36e cJ3_checkFromToIndex_8c36e 4 (some .int), Cond.methodLink RJ2 244 yJ2_indexOfCharUnsafe_4cfef, Cond.static yJ2_indexOfCharUnsafe_4cfef, Cond.code yJ2_indexOfCharUnsafe_4cfef cJ2_indexOfCharUnsafe_4cfef 5 (some .int), Cond.methodLink RJ2 71 yJ2_getChar_3b067, Cond.static yJ2_getChar_3b067, Cond.code yJ2_getChar_3b067 cJ2_getChar_3b067 2 (some .char), Cond.fieldLink RJ2 44 "java/lang/StringUTF16" "$assertionsDisabled" "Z", Cond.fieldLink RJ2 59 "java/lang/StringUTF16" "HI_BYTE_SHIFT" "I", Cond.fieldLink RJ2 63 "java/lang/StringUTF16" "LO_BYTE_SHIFT" "I", Cond.methodLink RJ2 232 yJ2_indexOfSupplementary_4cfef, Cond.static yJ2_indexOfSupplementary_4cfef, Cond.code yJ2_indexOfSupplementary_4cfef cJ2_indexOfSupplementary_4cfef 7 (some .int), Cond.methodLink RJ2 164 yJ11_isValidCodePoint_9a6ad, Cond.static yJ11_isValidCodePoint_9a6ad, Cond.initialized RJ11, Cond.code yJ11_isValidCodePoint_9a6ad cJ11_isValidCodePoint_9a6ad 2 (some .boolean), Cond.methodLink RJ2 157 yJ11_highSurrogate_5068e, Cond.static yJ11_highSurrogate_5068e, Cond.code yJ11_highSurrogate_5068e cJ11_highSurrogate_5068e 1 (some .char), Cond.constant RJ11 110 (55232)]
def wsX3_fits_r5 : List Cond := [Cond.methodLink RJ2 161 yJ11_lowSurrogate_5068e, Cond.static yJ11_lowSurrogate_5068e, Cond.code yJ11_lowSurrogate_5068e cJ11_lowSurrogate_5068e 1 (some .char), Cond.constant RJ11 76 (56320)]
def wsX3_fits : List Cond := .code yX3_fits cX3_fits 4 (some .boolean) :: ((wsX3_fits_r1 ++ (wsX3_fits_r2 ++ (wsX3_fits_r3 ++ (wsX3_fits_r4 ++ wsX3_fits_r5)))) ++ wsX30)
def wsX3_firstWrong_r1 : List Cond := [Cond.fieldLink RX3 15 "GritIsIssued$Text" "count" "I", Cond.methodLink RX3 19 yX3_letterAt, Cond.instanceMethod yX3_letterAt, Cond.selects RX3 yX3_letterAt yX3_letterAt, Cond.initialized RX3, Cond.code yX3_letterAt cX3_letterAt 2 (some .int), Cond.fieldLink RX3 9 "GritIsIssued$Text" "letters" "[I", Cond.methodLink RX3 30 yX3_behind, Cond.static yX3_behind, Cond.code yX3_behind cX3_behind 1 (some (.object "java/lang/String")), Cond.methodLink RX3 38 yJ0_isEmpty_aae02, Cond.instanceMethod yJ0_isEmpty_aae02, Cond.selects RJ0 yJ0_isEmpty_aae02 yJ0_isEmpty_aae02, Cond.initialized RJ0, Cond.code yJ0_isEmpty_aae02 cJ0_isEmpty_aae02 1 (some .boolean), Cond.fieldLink RJ0 9 "java/lang/String" "value" "[B", Cond.methodLink RX3 34 yJ0_length_8abf5, Cond.instanceMethod yJ0_length_8abf5, Cond.selects RJ0 yJ0_length_8abf5 yJ0_length_8abf5, Cond.code yJ0_length_8abf5 cJ0_length_8abf5 1 (some .int), Cond.methodLink RJ0 335 yJ0_coder_7d493, Cond.instanceMethod yJ0_coder_7d493, Cond.selects RJ0 yJ0_coder_7d493 yJ0_coder_7d493, Cond.code yJ0_coder_7d493 cJ0_coder_7d493 1 (some .byte)]
def wsX3_firstWrong_r2 : List Cond := [Cond.fieldLink RJ0 38 "java/lang/String" "COMPACT_STRINGS" "Z", Cond.fieldLink RJ0 15 "java/lang/String" "coder" "B", Cond.methodLink RX3 42 yJ0_charAt_5068e, Cond.instanceMethod yJ0_charAt_5068e, Cond.selects RJ0 yJ0_charAt_5068e yJ0_charAt_5068e, Cond.code yJ0_charAt_5068e cJ0_charAt_5068e 2 (some .char), Cond.methodLink RJ0 492 yJ0_isLatin1_aae02, Cond.instanceMethod yJ0_isLatin1_aae02, Cond.selects RJ0 yJ0_isLatin1_aae02 yJ0_isLatin1_aae02, Cond.code yJ0_isLatin1_aae02 cJ0_isLatin1_aae02 1 (some .boolean), Cond.methodLink RJ0 495 yJ1_charAt_3b067, Cond.static yJ1_charAt_3b067, Cond.initialized RJ1, Cond.code yJ1_charAt_3b067 cJ1_charAt_3b067 2 (some .char), Cond.methodLink RJ1 9 yJ0_checkIndex_df160, Cond.static yJ0_checkIndex_df160, Cond.code yJ0_checkIndex_df160 cJ0_checkIndex_df160 2 none, Cond.fieldLink RJ0 1053 "jdk/internal/util/Preconditions" "SIOOBE_FORMATTER" "Ljava/util/function/BiFunction;", Cond.methodLink RJ0 1059 yJ3_checkIndex_8e157, Cond.static yJ3_checkIndex_8e157, Cond.initialized RJ3, Cond.code yJ3_checkIndex_8e157 cJ3_checkIndex_8e157 3 (some .int), Cond.methodLink RJ0 498 yJ2_charAt_3b067, Cond.static yJ2_charAt_3b067]
def wsX3_firstWrong_r3 : List Cond := [Cond.initialized RJ2, Cond.code yJ2_charAt_3b067 cJ2_charAt_3b067 2 (some .char), Cond.methodLink RJ2 67 yJ2_checkIndex_2214a, Cond.static yJ2_checkIndex_2214a, Cond.code yJ2_checkIndex_2214a cJ2_checkIndex_2214a 2 none, Cond.methodLink RJ2 48 yJ2_length_9d52b, Cond.static yJ2_length_9d52b, Cond.code yJ2_length_9d52b cJ2_length_9d52b 1 (some .int), Cond.methodLink RJ2 414 yJ0_checkIndex_df160, Cond.methodLink RJ2 71 yJ2_getChar_3b067, Cond.static yJ2_getChar_3b067, Cond.code yJ2_getChar_3b067 cJ2_getChar_3b067 2 (some .char), Cond.fieldLink RJ2 44 "java/lang/StringUTF16" "$assertionsDisabled" "Z", Cond.fieldLink RJ2 59 "java/lang/StringUTF16" "HI_BYTE_SHIFT" "I", Cond.fieldLink RJ2 63 "java/lang/StringUTF16" "LO_BYTE_SHIFT" "I", Cond.methodLink RX3 46 yX3_fits, Cond.instanceMethod yX3_fits, Cond.selects RX3 yX3_fits yX3_fits, Cond.code yX3_fits cX3_fits 4 (some .boolean), Cond.methodLink RX3 60 yX3_kindAt, Cond.instanceMethod yX3_kindAt, Cond.selects RX3 yX3_kindAt yX3_kindAt, Cond.code yX3_kindAt cX3_kindAt 3 (some .int), Cond.methodLink RX3 25 yJ0_indexOf_0f7a4]
def wsX3_firstWrong_r4 : List Cond := [Cond.instanceMethod yJ0_indexOf_0f7a4, Cond.selects RJ0 yJ0_indexOf_0f7a4 yJ0_indexOf_0f7a4, Cond.code yJ0_indexOf_0f7a4 cJ0_indexOf_0f7a4 2 (some .int), Cond.methodLink RJ0 633 yJ0_indexOf_7cf53, Cond.instanceMethod yJ0_indexOf_7cf53, Cond.selects RJ0 yJ0_indexOf_7cf53 yJ0_indexOf_7cf53, Cond.code yJ0_indexOf_7cf53 cJ0_indexOf_7cf53 3 (some .int), Cond.methodLink RJ0 505 yJ0_length_8abf5, Cond.methodLink RJ0 637 yJ1_indexOf_4cfef, Cond.static yJ1_indexOf_4cfef, Cond.code yJ1_indexOf_4cfef cJ1_indexOf_4cfef 4 (some .int), Cond.methodLink RJ1 92 Lib.Math.max.name, Cond.static Lib.Math.max.name, Cond.initialized "java/lang/Math", Cond.code Lib.Math.max.name Lib.Math.max.code 2 (some .int), Cond.methodLink RJ1 38 Lib.Math.min.name, Cond.static Lib.Math.min.name, Cond.code Lib.Math.min.name Lib.Math.min.code 2 (some .int), Cond.methodLink RJ1 88 yJ1_canEncode_9a6ad, Cond.static yJ1_canEncode_9a6ad, Cond.code yJ1_canEncode_9a6ad cJ1_canEncode_9a6ad 1 (some .boolean), Cond.methodLink RJ1 95 yJ1_indexOfChar_4cfef, Cond.static yJ1_indexOfChar_4cfef, Cond.code yJ1_indexOfChar_4cfef cJ1_indexOfChar_4cfef 6 (some .int)]
def wsX3_firstWrong_r5 : List Cond := [Cond.methodLink RJ0 640 yJ2_indexOf_4cfef, Cond.static yJ2_indexOf_4cfef, Cond.code yJ2_indexOf_4cfef cJ2_indexOf_4cfef 4 (some .int), Cond.methodLink RJ2 224 Lib.Math.max.name, Cond.methodLink RJ2 183 Lib.Math.min.name, Cond.constant RJ2 227 (65536), Cond.methodLink RJ2 228 yJ2_indexOfChar_4cfef, Cond.static yJ2_indexOfChar_4cfef, Cond.code yJ2_indexOfChar_4cfef cJ2_indexOfChar_4cfef 4 (some .int), Cond.methodLink RJ2 96 yJ2_checkBoundsBeginEnd_d044e, Cond.static yJ2_checkBoundsBeginEnd_d044e, Cond.code yJ2_checkBoundsBeginEnd_d044e cJ2_checkBoundsBeginEnd_d044e 3 none, Cond.methodLink RJ2 241 yJ0_checkBoundsBeginEnd_23922, Cond.static yJ0_checkBoundsBeginEnd_23922, Cond.code yJ0_checkBoundsBeginEnd_23922 cJ0_checkBoundsBeginEnd_23922 3 none, Cond.methodLink RJ0 1062 yJ3_checkFromToIndex_8c36e, Cond.static yJ3_checkFromToIndex_8c36e, Cond.code yJ3_checkFromToIndex_8c36e cJ3_checkFromToIndex_8c36e 4 (some .int), Cond.methodLink RJ2 244 yJ2_indexOfCharUnsafe_4cfef, Cond.static yJ2_indexOfCharUnsafe_4cfef, Cond.code yJ2_indexOfCharUnsafe_4cfef cJ2_indexOfCharUnsafe_4cfef 5 (some .int), Cond.methodLink RJ2 232 yJ2_indexOfSupplementary_4cfef, Cond.static yJ2_indexOfSupplementary_4cfef, Cond.code yJ2_indexOfSupplementary_4cfef cJ2_indexOfSupplementary_4cfef 7 (some .int)]
def wsX3_firstWrong_r6 : List Cond := [Cond.methodLink RJ2 164 yJ11_isValidCodePoint_9a6ad, Cond.static yJ11_isValidCodePoint_9a6ad, Cond.initialized RJ11, Cond.code yJ11_isValidCodePoint_9a6ad cJ11_isValidCodePoint_9a6ad 2 (some .boolean), Cond.methodLink RJ2 157 yJ11_highSurrogate_5068e, Cond.static yJ11_highSurrogate_5068e, Cond.code yJ11_highSurrogate_5068e cJ11_highSurrogate_5068e 1 (some .char), Cond.constant RJ11 110 (55232), Cond.methodLink RJ2 161 yJ11_lowSurrogate_5068e, Cond.static yJ11_lowSurrogate_5068e, Cond.code yJ11_lowSurrogate_5068e cJ11_lowSurrogate_5068e 1 (some .char), Cond.constant RJ11 76 (56320)]
def wsX3_firstWrong : List Cond := .code yX3_firstWrong cX3_firstWrong 4 (some .int) :: ((wsX3_firstWrong_r1 ++ (wsX3_firstWrong_r2 ++ (wsX3_firstWrong_r3 ++ (wsX3_firstWrong_r4 ++ (wsX3_firstWrong_r5 ++ wsX3_firstWrong_r6))))) ++ wsX30)
def wsX4_init_r1 : List Cond := [Cond.methodLink RX4 1 objectInit, Cond.instanceMethod objectInit, Cond.code objectInit ⟨#[0xb1]⟩ 1 none, Cond.classLink RX4 7 RX1, Cond.instantiable RX1 6, Cond.initialized RX1, Cond.fieldLink RX4 10 "GritIsIssued" "now" "LGritIsIssued$Office;", Cond.fieldLink RX4 16 "GritIsIssued" "mind" "LGritIsIssued$Office;", Cond.fieldLink RX4 19 "GritIsIssued" "image" "LGritIsIssued$Office;", Cond.classLink RX4 22 RX2, Cond.instantiable RX2 8, Cond.initialized RX2, Cond.fieldLink RX4 25 "GritIsIssued" "trial" "LGritIsIssued$Person;", Cond.classLink RX4 29 RX3, Cond.instantiable RX3 2, Cond.initialized RX3, Cond.fieldLink RX4 32 "GritIsIssued" "text" "LGritIsIssued$Text;", Cond.arrayClass .int, Cond.fieldLink RX4 36 "GritIsIssued" "row" "[I", Cond.fieldLink RX4 40 "GritIsIssued" "refusals" "[I", Cond.fieldLink RX4 43 "GritIsIssued" "throughBare" "[I", Cond.fieldLink RX4 46 "GritIsIssued" "throughGiven" "[I", Cond.methodLink RX4 9 yX1_init, Cond.instanceMethod yX1_init]
def wsX4_init_r2 : List Cond := [Cond.code yX1_init cX1_init 2 none, Cond.methodLink RX1 3 objectInit, Cond.classLink RX1 9 RX2, Cond.fieldLink RX1 11 "GritIsIssued$Office" "room" "[LGritIsIssued$Person;", Cond.fieldLink RX1 18 "GritIsIssued$Office" "nobody" "LGritIsIssued$Person;", Cond.instanceMethod yX2_init, Cond.code yX2_init cX2_init 1 none, Cond.methodLink RX2 3 objectInit, Cond.instanceMethod yX3_init, Cond.code yX3_init cX3_init 1 none, Cond.methodLink RX3 3 objectInit, Cond.fieldLink RX3 9 "GritIsIssued$Text" "letters" "[I"]
def wsX4_init : List Cond := .code yX4_init cX4_init 1 none :: ((wsX4_init_r1 ++ wsX4_init_r2) ++ wsX10 ++ wsX40 ++ wsX20 ++ wsX30)
def wsX4_outside : List Cond := .code yX4_outside cX4_outside 3 (some .int) :: ([])
def wsX4_refused : List Cond := .code yX4_refused cX4_refused 3 (some .int) :: ([.fieldLink RX4 40 "GritIsIssued" "refusals" "[I"] ++ wsX40)
def wsX4_letter : List Cond := .code yX4_letter cX4_letter 3 (some .int) :: ([.fieldLink RX4 32 "GritIsIssued" "text" "LGritIsIssued$Text;", .fieldLink RX4 53 "GritIsIssued$Text" "count" "I", .methodLink RX4 49 yX4_outside, .static yX4_outside, .initialized RX4, .code yX4_outside cX4_outside 3 (some .int), .methodLink RX4 57 yX4_refused, .instanceMethod yX4_refused, .selects RX4 yX4_refused yX4_refused, .code yX4_refused cX4_refused 3 (some .int), .fieldLink RX4 40 "GritIsIssued" "refusals" "[I", .methodLink RX4 61 yX3_add, .instanceMethod yX3_add, .selects RX3 yX3_add yX3_add, .initialized RX3, .code yX3_add cX3_add 2 none, .fieldLink RX3 15 "GritIsIssued$Text" "count" "I", .fieldLink RX3 9 "GritIsIssued$Text" "letters" "[I"] ++ wsX40 ++ wsX30)
def wsX4_comes_r1 : List Cond := [Cond.fieldLink RX4 32 "GritIsIssued" "text" "LGritIsIssued$Text;", Cond.fieldLink RX4 16 "GritIsIssued" "mind" "LGritIsIssued$Office;", Cond.methodLink RX4 248 yX3_number, Cond.instanceMethod yX3_number, Cond.selects RX3 yX3_number yX3_number, Cond.initialized RX3, Cond.code yX3_number cX3_number 5 (some .int), Cond.methodLink RX3 19 yX3_letterAt, Cond.instanceMethod yX3_letterAt, Cond.selects RX3 yX3_letterAt yX3_letterAt, Cond.code yX3_letterAt cX3_letterAt 2 (some .int), Cond.fieldLink RX3 15 "GritIsIssued$Text" "count" "I", Cond.fieldLink RX3 9 "GritIsIssued$Text" "letters" "[I", Cond.methodLink RX4 251 yX3_letterAt, Cond.methodLink RX4 254 yX3_kindAt, Cond.instanceMethod yX3_kindAt, Cond.selects RX3 yX3_kindAt yX3_kindAt, Cond.code yX3_kindAt cX3_kindAt 3 (some .int), Cond.methodLink RX3 25 yJ0_indexOf_0f7a4, Cond.instanceMethod yJ0_indexOf_0f7a4, Cond.selects RJ0 yJ0_indexOf_0f7a4 yJ0_indexOf_0f7a4, Cond.initialized RJ0, Cond.code yJ0_indexOf_0f7a4 cJ0_indexOf_0f7a4 2 (some .int), Cond.methodLink RJ0 633 yJ0_indexOf_7cf53]
def wsX4_comes_r2 : List Cond := [Cond.instanceMethod yJ0_indexOf_7cf53, Cond.selects RJ0 yJ0_indexOf_7cf53 yJ0_indexOf_7cf53, Cond.code yJ0_indexOf_7cf53 cJ0_indexOf_7cf53 3 (some .int), Cond.fieldLink RJ0 9 "java/lang/String" "value" "[B", Cond.methodLink RJ0 492 yJ0_isLatin1_aae02, Cond.instanceMethod yJ0_isLatin1_aae02, Cond.selects RJ0 yJ0_isLatin1_aae02 yJ0_isLatin1_aae02, Cond.code yJ0_isLatin1_aae02 cJ0_isLatin1_aae02 1 (some .boolean), Cond.fieldLink RJ0 38 "java/lang/String" "COMPACT_STRINGS" "Z", Cond.fieldLink RJ0 15 "java/lang/String" "coder" "B", Cond.methodLink RJ0 505 yJ0_length_8abf5, Cond.instanceMethod yJ0_length_8abf5, Cond.selects RJ0 yJ0_length_8abf5 yJ0_length_8abf5, Cond.code yJ0_length_8abf5 cJ0_length_8abf5 1 (some .int), Cond.methodLink RJ0 335 yJ0_coder_7d493, Cond.instanceMethod yJ0_coder_7d493, Cond.selects RJ0 yJ0_coder_7d493 yJ0_coder_7d493, Cond.code yJ0_coder_7d493 cJ0_coder_7d493 1 (some .byte), Cond.methodLink RJ0 637 yJ1_indexOf_4cfef, Cond.static yJ1_indexOf_4cfef, Cond.initialized RJ1, Cond.code yJ1_indexOf_4cfef cJ1_indexOf_4cfef 4 (some .int), Cond.methodLink RJ1 92 Lib.Math.max.name, Cond.static Lib.Math.max.name]
def wsX4_comes_r3 : List Cond := [Cond.initialized "java/lang/Math", Cond.code Lib.Math.max.name Lib.Math.max.code 2 (some .int), Cond.methodLink RJ1 38 Lib.Math.min.name, Cond.static Lib.Math.min.name, Cond.code Lib.Math.min.name Lib.Math.min.code 2 (some .int), Cond.methodLink RJ1 88 yJ1_canEncode_9a6ad, Cond.static yJ1_canEncode_9a6ad, Cond.code yJ1_canEncode_9a6ad cJ1_canEncode_9a6ad 1 (some .boolean), Cond.methodLink RJ1 95 yJ1_indexOfChar_4cfef, Cond.static yJ1_indexOfChar_4cfef, Cond.code yJ1_indexOfChar_4cfef cJ1_indexOfChar_4cfef 6 (some .int), Cond.methodLink RJ0 640 yJ2_indexOf_4cfef, Cond.static yJ2_indexOf_4cfef, Cond.initialized RJ2, Cond.code yJ2_indexOf_4cfef cJ2_indexOf_4cfef 4 (some .int), Cond.methodLink RJ2 224 Lib.Math.max.name, Cond.methodLink RJ2 183 Lib.Math.min.name, Cond.constant RJ2 227 (65536), Cond.methodLink RJ2 228 yJ2_indexOfChar_4cfef, Cond.static yJ2_indexOfChar_4cfef, Cond.code yJ2_indexOfChar_4cfef cJ2_indexOfChar_4cfef 4 (some .int), Cond.methodLink RJ2 96 yJ2_checkBoundsBeginEnd_d044e, Cond.static yJ2_checkBoundsBeginEnd_d044e, Cond.code yJ2_checkBoundsBeginEnd_d044e cJ2_checkBoundsBeginEnd_d044e 3 none]
def wsX4_comes_r4 : List Cond := [Cond.methodLink RJ2 48 yJ2_length_9d52b, Cond.static yJ2_length_9d52b, Cond.code yJ2_length_9d52b cJ2_length_9d52b 1 (some .int), Cond.methodLink RJ2 241 yJ0_checkBoundsBeginEnd_23922, Cond.static yJ0_checkBoundsBeginEnd_23922, Cond.code yJ0_checkBoundsBeginEnd_23922 cJ0_checkBoundsBeginEnd_23922 3 none, Cond.fieldLink RJ0 1053 "jdk/internal/util/Preconditions" "SIOOBE_FORMATTER" "Ljava/util/function/BiFunction;", Cond.methodLink RJ0 1062 yJ3_checkFromToIndex_8c36e, Cond.static yJ3_checkFromToIndex_8c36e, Cond.initialized RJ3, Cond.code yJ3_checkFromToIndex_8c36e cJ3_checkFromToIndex_8c36e 4 (some .int), Cond.methodLink RJ2 244 yJ2_indexOfCharUnsafe_4cfef, Cond.static yJ2_indexOfCharUnsafe_4cfef, Cond.code yJ2_indexOfCharUnsafe_4cfef cJ2_indexOfCharUnsafe_4cfef 5 (some .int), Cond.methodLink RJ2 71 yJ2_getChar_3b067, Cond.static yJ2_getChar_3b067, Cond.code yJ2_getChar_3b067 cJ2_getChar_3b067 2 (some .char), Cond.fieldLink RJ2 44 "java/lang/StringUTF16" "$assertionsDisabled" "Z", Cond.fieldLink RJ2 59 "java/lang/StringUTF16" "HI_BYTE_SHIFT" "I", Cond.fieldLink RJ2 63 "java/lang/StringUTF16" "LO_BYTE_SHIFT" "I", Cond.methodLink RJ2 232 yJ2_indexOfSupplementary_4cfef, Cond.static yJ2_indexOfSupplementary_4cfef, Cond.code yJ2_indexOfSupplementary_4cfef cJ2_indexOfSupplementary_4cfef 7 (some .int), Cond.methodLink RJ2 164 yJ11_isValidCodePoint_9a6ad]
def wsX4_comes_r5 : List Cond := [Cond.static yJ11_isValidCodePoint_9a6ad, Cond.initialized RJ11, Cond.code yJ11_isValidCodePoint_9a6ad cJ11_isValidCodePoint_9a6ad 2 (some .boolean), Cond.methodLink RJ2 157 yJ11_highSurrogate_5068e, Cond.static yJ11_highSurrogate_5068e, Cond.code yJ11_highSurrogate_5068e cJ11_highSurrogate_5068e 1 (some .char), Cond.constant RJ11 110 (55232), Cond.methodLink RJ2 161 yJ11_lowSurrogate_5068e, Cond.static yJ11_lowSurrogate_5068e, Cond.code yJ11_lowSurrogate_5068e cJ11_lowSurrogate_5068e 1 (some .char), Cond.constant RJ11 76 (56320), Cond.methodLink RX4 257 yX1_welcome, Cond.instanceMethod yX1_welcome, Cond.selects RX1 yX1_welcome yX1_welcome, Cond.initialized RX1, Cond.code yX1_welcome cX1_welcome 5 (some .boolean), Cond.fieldLink RX1 22 "GritIsIssued$Office" "people" "I", Cond.fieldLink RX1 11 "GritIsIssued$Office" "room" "[LGritIsIssued$Person;", Cond.fieldLink RX1 18 "GritIsIssued$Office" "nobody" "LGritIsIssued$Person;", Cond.fieldLink RX1 43 "GritIsIssued$Person" "kind" "I", Cond.fieldLink RX1 46 "GritIsIssued$Person" "figure" "I", Cond.fieldLink RX1 49 "GritIsIssued$Person" "due" "I", Cond.methodLink RX1 35 yX1_at, Cond.instanceMethod yX1_at]
def wsX4_comes_r6 : List Cond := [Cond.selects RX1 yX1_at yX1_at, Cond.code yX1_at cX1_at 2 (some (.object "GritIsIssued$Person")), Cond.methodLink RX1 39 yX2_takeFrom, Cond.instanceMethod yX2_takeFrom, Cond.selects RX2 yX2_takeFrom yX2_takeFrom, Cond.initialized RX2, Cond.code yX2_takeFrom cX2_takeFrom 2 none, Cond.fieldLink RX2 9 "GritIsIssued$Person" "kind" "I", Cond.fieldLink RX2 15 "GritIsIssued$Person" "figure" "I", Cond.fieldLink RX2 18 "GritIsIssued$Person" "has" "I", Cond.fieldLink RX2 21 "GritIsIssued$Person" "due" "I", Cond.fieldLink RX2 24 "GritIsIssued$Person" "through" "I", Cond.fieldLink RX2 27 "GritIsIssued$Person" "shorts" "I", Cond.fieldLink RX2 30 "GritIsIssued$Person" "passed" "I", Cond.fieldLink RX2 33 "GritIsIssued$Person" "missed" "I", Cond.methodLink RX4 107 yX1_issue, Cond.instanceMethod yX1_issue, Cond.selects RX1 yX1_issue yX1_issue, Cond.code yX1_issue cX1_issue 3 (some .boolean), Cond.fieldLink RX1 26 "GritIsIssued$Office" "store" "I", Cond.fieldLink RX1 56 "GritIsIssued$Person" "has" "I", Cond.methodLink RX1 52 yX1_knows, Cond.instanceMethod yX1_knows, Cond.selects RX1 yX1_knows yX1_knows]
def wsX4_comes_r7 : List Cond := [Cond.code yX1_knows cX1_knows 2 (some .boolean), Cond.methodLink RX4 114 yX1_handIn, Cond.instanceMethod yX1_handIn, Cond.selects RX1 yX1_handIn yX1_handIn, Cond.code yX1_handIn cX1_handIn 3 (some .boolean), Cond.methodLink RX1 59 Lib.Math.min.name, Cond.methodLink RX1 65 yX1_wear, Cond.instanceMethod yX1_wear, Cond.selects RX1 yX1_wear yX1_wear, Cond.code yX1_wear cX1_wear 2 none, Cond.fieldLink RX1 29 "GritIsIssued$Office" "worn" "I", Cond.methodLink RX4 261 yX1_setDue, Cond.instanceMethod yX1_setDue, Cond.selects RX1 yX1_setDue yX1_setDue, Cond.code yX1_setDue cX1_setDue 3 (some .boolean), Cond.methodLink RX4 118 yX1_fill, Cond.instanceMethod yX1_fill, Cond.selects RX1 yX1_fill yX1_fill, Cond.code yX1_fill cX1_fill 2 (some .boolean), Cond.methodLink RX4 264 yX1_daysCome, Cond.instanceMethod yX1_daysCome, Cond.selects RX1 yX1_daysCome yX1_daysCome, Cond.code yX1_daysCome cX1_daysCome 2 (some .boolean), Cond.fieldLink RX1 32 "GritIsIssued$Office" "day" "I"]
def wsX4_comes_r8 : List Cond := [Cond.methodLink RX1 69 yX1_daysGoBy, Cond.instanceMethod yX1_daysGoBy, Cond.selects RX1 yX1_daysGoBy yX1_daysGoBy, Cond.code yX1_daysGoBy cX1_daysGoBy 4 none, Cond.methodLink RX1 72 yX2_oneDay, Cond.instanceMethod yX2_oneDay, Cond.selects RX2 yX2_oneDay yX2_oneDay, Cond.code yX2_oneDay cX2_oneDay 3 (some .int), Cond.methodLink RX2 51 Lib.Math.min.name, Cond.methodLink RX2 36 yX0_needs, Cond.static yX0_needs, Cond.initialized RX0, Cond.code yX0_needs cX0_needs 4 (some .int), Cond.methodLink RX2 54 yX0_wears, Cond.static yX0_wears, Cond.code yX0_wears cX0_wears 2 (some .int), Cond.methodLink RX2 57 yX0_nextIn, Cond.static yX0_nextIn, Cond.code yX0_nextIn cX0_nextIn 2 (some .int)]
def wsX4_comes : List Cond := .code yX4_comes cX4_comes 3 (some .boolean) :: ((wsX4_comes_r1 ++ (wsX4_comes_r2 ++ (wsX4_comes_r3 ++ (wsX4_comes_r4 ++ (wsX4_comes_r5 ++ (wsX4_comes_r6 ++ (wsX4_comes_r7 ++ wsX4_comes_r8))))))) ++ wsX40 ++ wsX30 ++ wsX10 ++ wsX20)
def wsX4_read_r1 : List Cond := [Cond.fieldLink RX4 32 "GritIsIssued" "text" "LGritIsIssued$Text;", Cond.fieldLink RX4 16 "GritIsIssued" "mind" "LGritIsIssued$Office;", Cond.fieldLink RX4 10 "GritIsIssued" "now" "LGritIsIssued$Office;", Cond.fieldLink RX4 53 "GritIsIssued$Text" "count" "I", Cond.methodLink RX4 239 yX3_firstWrong, Cond.instanceMethod yX3_firstWrong, Cond.selects RX3 yX3_firstWrong yX3_firstWrong, Cond.initialized RX3, Cond.code yX3_firstWrong cX3_firstWrong 4 (some .int), Cond.fieldLink RX3 15 "GritIsIssued$Text" "count" "I", Cond.methodLink RX3 19 yX3_letterAt, Cond.instanceMethod yX3_letterAt, Cond.selects RX3 yX3_letterAt yX3_letterAt, Cond.code yX3_letterAt cX3_letterAt 2 (some .int), Cond.fieldLink RX3 9 "GritIsIssued$Text" "letters" "[I", Cond.methodLink RX3 30 yX3_behind, Cond.static yX3_behind, Cond.code yX3_behind cX3_behind 1 (some (.object "java/lang/String")), Cond.methodLink RX3 38 yJ0_isEmpty_aae02, Cond.instanceMethod yJ0_isEmpty_aae02, Cond.selects RJ0 yJ0_isEmpty_aae02 yJ0_isEmpty_aae02, Cond.initialized RJ0, Cond.code yJ0_isEmpty_aae02 cJ0_isEmpty_aae02 1 (some .boolean), Cond.fieldLink RJ0 9 "java/lang/String" "value" "[B"]
def wsX4_read_r2 : List Cond := [Cond.methodLink RX3 34 yJ0_length_8abf5, Cond.instanceMethod yJ0_length_8abf5, Cond.selects RJ0 yJ0_length_8abf5 yJ0_length_8abf5, Cond.code yJ0_length_8abf5 cJ0_length_8abf5 1 (some .int), Cond.methodLink RJ0 335 yJ0_coder_7d493, Cond.instanceMethod yJ0_coder_7d493, Cond.selects RJ0 yJ0_coder_7d493 yJ0_coder_7d493, Cond.code yJ0_coder_7d493 cJ0_coder_7d493 1 (some .byte), Cond.fieldLink RJ0 38 "java/lang/String" "COMPACT_STRINGS" "Z", Cond.fieldLink RJ0 15 "java/lang/String" "coder" "B", Cond.methodLink RX3 42 yJ0_charAt_5068e, Cond.instanceMethod yJ0_charAt_5068e, Cond.selects RJ0 yJ0_charAt_5068e yJ0_charAt_5068e, Cond.code yJ0_charAt_5068e cJ0_charAt_5068e 2 (some .char), Cond.methodLink RJ0 492 yJ0_isLatin1_aae02, Cond.instanceMethod yJ0_isLatin1_aae02, Cond.selects RJ0 yJ0_isLatin1_aae02 yJ0_isLatin1_aae02, Cond.code yJ0_isLatin1_aae02 cJ0_isLatin1_aae02 1 (some .boolean), Cond.methodLink RJ0 495 yJ1_charAt_3b067, Cond.static yJ1_charAt_3b067, Cond.initialized RJ1, Cond.code yJ1_charAt_3b067 cJ1_charAt_3b067 2 (some .char), Cond.methodLink RJ1 9 yJ0_checkIndex_df160, Cond.static yJ0_checkIndex_df160]
def wsX4_read_r3 : List Cond := [Cond.code yJ0_checkIndex_df160 cJ0_checkIndex_df160 2 none, Cond.fieldLink RJ0 1053 "jdk/internal/util/Preconditions" "SIOOBE_FORMATTER" "Ljava/util/function/BiFunction;", Cond.methodLink RJ0 1059 yJ3_checkIndex_8e157, Cond.static yJ3_checkIndex_8e157, Cond.initialized RJ3, Cond.code yJ3_checkIndex_8e157 cJ3_checkIndex_8e157 3 (some .int), Cond.methodLink RJ0 498 yJ2_charAt_3b067, Cond.static yJ2_charAt_3b067, Cond.initialized RJ2, Cond.code yJ2_charAt_3b067 cJ2_charAt_3b067 2 (some .char), Cond.methodLink RJ2 67 yJ2_checkIndex_2214a, Cond.static yJ2_checkIndex_2214a, Cond.code yJ2_checkIndex_2214a cJ2_checkIndex_2214a 2 none, Cond.methodLink RJ2 48 yJ2_length_9d52b, Cond.static yJ2_length_9d52b, Cond.code yJ2_length_9d52b cJ2_length_9d52b 1 (some .int), Cond.methodLink RJ2 414 yJ0_checkIndex_df160, Cond.methodLink RJ2 71 yJ2_getChar_3b067, Cond.static yJ2_getChar_3b067, Cond.code yJ2_getChar_3b067 cJ2_getChar_3b067 2 (some .char), Cond.fieldLink RJ2 44 "java/lang/StringUTF16" "$assertionsDisabled" "Z", Cond.fieldLink RJ2 59 "java/lang/StringUTF16" "HI_BYTE_SHIFT" "I", Cond.fieldLink RJ2 63 "java/lang/StringUTF16" "LO_BYTE_SHIFT" "I", Cond.methodLink RX3 46 yX3_fits]
def wsX4_read_r4 : List Cond := [Cond.instanceMethod yX3_fits, Cond.selects RX3 yX3_fits yX3_fits, Cond.code yX3_fits cX3_fits 4 (some .boolean), Cond.methodLink RX3 60 yX3_kindAt, Cond.instanceMethod yX3_kindAt, Cond.selects RX3 yX3_kindAt yX3_kindAt, Cond.code yX3_kindAt cX3_kindAt 3 (some .int), Cond.methodLink RX3 25 yJ0_indexOf_0f7a4, Cond.instanceMethod yJ0_indexOf_0f7a4, Cond.selects RJ0 yJ0_indexOf_0f7a4 yJ0_indexOf_0f7a4, Cond.code yJ0_indexOf_0f7a4 cJ0_indexOf_0f7a4 2 (some .int), Cond.methodLink RJ0 633 yJ0_indexOf_7cf53, Cond.instanceMethod yJ0_indexOf_7cf53, Cond.selects RJ0 yJ0_indexOf_7cf53 yJ0_indexOf_7cf53, Cond.code yJ0_indexOf_7cf53 cJ0_indexOf_7cf53 3 (some .int), Cond.methodLink RJ0 505 yJ0_length_8abf5, Cond.methodLink RJ0 637 yJ1_indexOf_4cfef, Cond.static yJ1_indexOf_4cfef, Cond.code yJ1_indexOf_4cfef cJ1_indexOf_4cfef 4 (some .int), Cond.methodLink RJ1 92 Lib.Math.max.name, Cond.static Lib.Math.max.name, Cond.initialized "java/lang/Math", Cond.code Lib.Math.max.name Lib.Math.max.code 2 (some .int), Cond.methodLink RJ1 38 Lib.Math.min.name]
def wsX4_read_r5 : List Cond := [Cond.static Lib.Math.min.name, Cond.code Lib.Math.min.name Lib.Math.min.code 2 (some .int), Cond.methodLink RJ1 88 yJ1_canEncode_9a6ad, Cond.static yJ1_canEncode_9a6ad, Cond.code yJ1_canEncode_9a6ad cJ1_canEncode_9a6ad 1 (some .boolean), Cond.methodLink RJ1 95 yJ1_indexOfChar_4cfef, Cond.static yJ1_indexOfChar_4cfef, Cond.code yJ1_indexOfChar_4cfef cJ1_indexOfChar_4cfef 6 (some .int), Cond.methodLink RJ0 640 yJ2_indexOf_4cfef, Cond.static yJ2_indexOf_4cfef, Cond.code yJ2_indexOf_4cfef cJ2_indexOf_4cfef 4 (some .int), Cond.methodLink RJ2 224 Lib.Math.max.name, Cond.methodLink RJ2 183 Lib.Math.min.name, Cond.constant RJ2 227 (65536), Cond.methodLink RJ2 228 yJ2_indexOfChar_4cfef, Cond.static yJ2_indexOfChar_4cfef, Cond.code yJ2_indexOfChar_4cfef cJ2_indexOfChar_4cfef 4 (some .int), Cond.methodLink RJ2 96 yJ2_checkBoundsBeginEnd_d044e, Cond.static yJ2_checkBoundsBeginEnd_d044e, Cond.code yJ2_checkBoundsBeginEnd_d044e cJ2_checkBoundsBeginEnd_d044e 3 none, Cond.methodLink RJ2 241 yJ0_checkBoundsBeginEnd_23922, Cond.static yJ0_checkBoundsBeginEnd_23922, Cond.code yJ0_checkBoundsBeginEnd_23922 cJ0_checkBoundsBeginEnd_23922 3 none, Cond.methodLink RJ0 1062 yJ3_checkFromToIndex_8c36e]
def wsX4_read_r6 : List Cond := [Cond.static yJ3_checkFromToIndex_8c36e, Cond.code yJ3_checkFromToIndex_8c36e cJ3_checkFromToIndex_8c36e 4 (some .int), Cond.methodLink RJ2 244 yJ2_indexOfCharUnsafe_4cfef, Cond.static yJ2_indexOfCharUnsafe_4cfef, Cond.code yJ2_indexOfCharUnsafe_4cfef cJ2_indexOfCharUnsafe_4cfef 5 (some .int), Cond.methodLink RJ2 232 yJ2_indexOfSupplementary_4cfef, Cond.static yJ2_indexOfSupplementary_4cfef, Cond.code yJ2_indexOfSupplementary_4cfef cJ2_indexOfSupplementary_4cfef 7 (some .int), Cond.methodLink RJ2 164 yJ11_isValidCodePoint_9a6ad, Cond.static yJ11_isValidCodePoint_9a6ad, Cond.initialized RJ11, Cond.code yJ11_isValidCodePoint_9a6ad cJ11_isValidCodePoint_9a6ad 2 (some .boolean), Cond.methodLink RJ2 157 yJ11_highSurrogate_5068e, Cond.static yJ11_highSurrogate_5068e, Cond.code yJ11_highSurrogate_5068e cJ11_highSurrogate_5068e 1 (some .char), Cond.constant RJ11 110 (55232), Cond.methodLink RJ2 161 yJ11_lowSurrogate_5068e, Cond.static yJ11_lowSurrogate_5068e, Cond.code yJ11_lowSurrogate_5068e cJ11_lowSurrogate_5068e 1 (some .char), Cond.constant RJ11 76 (56320), Cond.methodLink RX4 134 yX1_takeFrom, Cond.instanceMethod yX1_takeFrom, Cond.selects RX1 yX1_takeFrom yX1_takeFrom, Cond.initialized RX1]
def wsX4_read_r7 : List Cond := [Cond.code yX1_takeFrom cX1_takeFrom 3 none, Cond.fieldLink RX1 22 "GritIsIssued$Office" "people" "I", Cond.fieldLink RX1 26 "GritIsIssued$Office" "store" "I", Cond.fieldLink RX1 29 "GritIsIssued$Office" "worn" "I", Cond.fieldLink RX1 32 "GritIsIssued$Office" "day" "I", Cond.methodLink RX1 35 yX1_at, Cond.instanceMethod yX1_at, Cond.selects RX1 yX1_at yX1_at, Cond.code yX1_at cX1_at 2 (some (.object "GritIsIssued$Person")), Cond.fieldLink RX1 11 "GritIsIssued$Office" "room" "[LGritIsIssued$Person;", Cond.fieldLink RX1 18 "GritIsIssued$Office" "nobody" "LGritIsIssued$Person;", Cond.methodLink RX1 39 yX2_takeFrom, Cond.instanceMethod yX2_takeFrom, Cond.selects RX2 yX2_takeFrom yX2_takeFrom, Cond.initialized RX2, Cond.code yX2_takeFrom cX2_takeFrom 2 none, Cond.fieldLink RX2 9 "GritIsIssued$Person" "kind" "I", Cond.fieldLink RX2 15 "GritIsIssued$Person" "figure" "I", Cond.fieldLink RX2 18 "GritIsIssued$Person" "has" "I", Cond.fieldLink RX2 21 "GritIsIssued$Person" "due" "I", Cond.fieldLink RX2 24 "GritIsIssued$Person" "through" "I", Cond.fieldLink RX2 27 "GritIsIssued$Person" "shorts" "I", Cond.fieldLink RX2 30 "GritIsIssued$Person" "passed" "I", Cond.fieldLink RX2 33 "GritIsIssued$Person" "missed" "I"]
def wsX4_read_r8 : List Cond := [Cond.methodLink RX4 242 yX4_comes, Cond.instanceMethod yX4_comes, Cond.selects RX4 yX4_comes yX4_comes, Cond.initialized RX4, Cond.code yX4_comes cX4_comes 3 (some .boolean), Cond.methodLink RX4 248 yX3_number, Cond.instanceMethod yX3_number, Cond.selects RX3 yX3_number yX3_number, Cond.code yX3_number cX3_number 5 (some .int), Cond.methodLink RX4 251 yX3_letterAt, Cond.methodLink RX4 254 yX3_kindAt, Cond.methodLink RX4 257 yX1_welcome, Cond.instanceMethod yX1_welcome, Cond.selects RX1 yX1_welcome yX1_welcome, Cond.code yX1_welcome cX1_welcome 5 (some .boolean), Cond.fieldLink RX1 43 "GritIsIssued$Person" "kind" "I", Cond.fieldLink RX1 46 "GritIsIssued$Person" "figure" "I", Cond.fieldLink RX1 49 "GritIsIssued$Person" "due" "I", Cond.methodLink RX4 107 yX1_issue, Cond.instanceMethod yX1_issue, Cond.selects RX1 yX1_issue yX1_issue, Cond.code yX1_issue cX1_issue 3 (some .boolean), Cond.fieldLink RX1 56 "GritIsIssued$Person" "has" "I", Cond.methodLink RX1 52 yX1_knows]
def wsX4_read_r9 : List Cond := [Cond.instanceMethod yX1_knows, Cond.selects RX1 yX1_knows yX1_knows, Cond.code yX1_knows cX1_knows 2 (some .boolean), Cond.methodLink RX4 114 yX1_handIn, Cond.instanceMethod yX1_handIn, Cond.selects RX1 yX1_handIn yX1_handIn, Cond.code yX1_handIn cX1_handIn 3 (some .boolean), Cond.methodLink RX1 59 Lib.Math.min.name, Cond.methodLink RX1 65 yX1_wear, Cond.instanceMethod yX1_wear, Cond.selects RX1 yX1_wear yX1_wear, Cond.code yX1_wear cX1_wear 2 none, Cond.methodLink RX4 261 yX1_setDue, Cond.instanceMethod yX1_setDue, Cond.selects RX1 yX1_setDue yX1_setDue, Cond.code yX1_setDue cX1_setDue 3 (some .boolean), Cond.methodLink RX4 118 yX1_fill, Cond.instanceMethod yX1_fill, Cond.selects RX1 yX1_fill yX1_fill, Cond.code yX1_fill cX1_fill 2 (some .boolean), Cond.methodLink RX4 264 yX1_daysCome, Cond.instanceMethod yX1_daysCome, Cond.selects RX1 yX1_daysCome yX1_daysCome, Cond.code yX1_daysCome cX1_daysCome 2 (some .boolean)]
def wsX4_read_r10 : List Cond := [Cond.methodLink RX1 69 yX1_daysGoBy, Cond.instanceMethod yX1_daysGoBy, Cond.selects RX1 yX1_daysGoBy yX1_daysGoBy, Cond.code yX1_daysGoBy cX1_daysGoBy 4 none, Cond.methodLink RX1 72 yX2_oneDay, Cond.instanceMethod yX2_oneDay, Cond.selects RX2 yX2_oneDay yX2_oneDay, Cond.code yX2_oneDay cX2_oneDay 3 (some .int), Cond.methodLink RX2 51 Lib.Math.min.name, Cond.methodLink RX2 36 yX0_needs, Cond.static yX0_needs, Cond.initialized RX0, Cond.code yX0_needs cX0_needs 4 (some .int), Cond.methodLink RX2 54 yX0_wears, Cond.static yX0_wears, Cond.code yX0_wears cX0_wears 2 (some .int), Cond.methodLink RX2 57 yX0_nextIn, Cond.static yX0_nextIn, Cond.code yX0_nextIn cX0_nextIn 2 (some .int), Cond.methodLink RX4 245 yX3_lengthAt, Cond.instanceMethod yX3_lengthAt, Cond.selects RX3 yX3_lengthAt yX3_lengthAt, Cond.code yX3_lengthAt cX3_lengthAt 2 (some .int)]
def wsX4_read : List Cond := .code yX4_read cX4_read 4 (some .int) :: ((wsX4_read_r1 ++ (wsX4_read_r2 ++ (wsX4_read_r3 ++ (wsX4_read_r4 ++ (wsX4_read_r5 ++ (wsX4_read_r6 ++ (wsX4_read_r7 ++ (wsX4_read_r8 ++ (wsX4_read_r9 ++ wsX4_read_r10))))))))) ++ wsX40 ++ wsX30 ++ wsX10 ++ wsX20)
def wsX4_counter_r1 : List Cond := [Cond.fieldLink RX4 32 "GritIsIssued" "text" "LGritIsIssued$Text;", Cond.fieldLink RX4 53 "GritIsIssued$Text" "count" "I", Cond.methodLink RX4 65 yX4_read, Cond.instanceMethod yX4_read, Cond.selects RX4 yX4_read yX4_read, Cond.initialized RX4, Cond.code yX4_read cX4_read 4 (some .int), Cond.fieldLink RX4 16 "GritIsIssued" "mind" "LGritIsIssued$Office;", Cond.fieldLink RX4 10 "GritIsIssued" "now" "LGritIsIssued$Office;", Cond.methodLink RX4 239 yX3_firstWrong, Cond.instanceMethod yX3_firstWrong, Cond.selects RX3 yX3_firstWrong yX3_firstWrong, Cond.initialized RX3, Cond.code yX3_firstWrong cX3_firstWrong 4 (some .int), Cond.fieldLink RX3 15 "GritIsIssued$Text" "count" "I", Cond.methodLink RX3 19 yX3_letterAt, Cond.instanceMethod yX3_letterAt, Cond.selects RX3 yX3_letterAt yX3_letterAt, Cond.code yX3_letterAt cX3_letterAt 2 (some .int), Cond.fieldLink RX3 9 "GritIsIssued$Text" "letters" "[I", Cond.methodLink RX3 30 yX3_behind, Cond.static yX3_behind, Cond.code yX3_behind cX3_behind 1 (some (.object "java/lang/String")), Cond.methodLink RX3 38 yJ0_isEmpty_aae02]
def wsX4_counter_r2 : List Cond := [Cond.instanceMethod yJ0_isEmpty_aae02, Cond.selects RJ0 yJ0_isEmpty_aae02 yJ0_isEmpty_aae02, Cond.initialized RJ0, Cond.code yJ0_isEmpty_aae02 cJ0_isEmpty_aae02 1 (some .boolean), Cond.fieldLink RJ0 9 "java/lang/String" "value" "[B", Cond.methodLink RX3 34 yJ0_length_8abf5, Cond.instanceMethod yJ0_length_8abf5, Cond.selects RJ0 yJ0_length_8abf5 yJ0_length_8abf5, Cond.code yJ0_length_8abf5 cJ0_length_8abf5 1 (some .int), Cond.methodLink RJ0 335 yJ0_coder_7d493, Cond.instanceMethod yJ0_coder_7d493, Cond.selects RJ0 yJ0_coder_7d493 yJ0_coder_7d493, Cond.code yJ0_coder_7d493 cJ0_coder_7d493 1 (some .byte), Cond.fieldLink RJ0 38 "java/lang/String" "COMPACT_STRINGS" "Z", Cond.fieldLink RJ0 15 "java/lang/String" "coder" "B", Cond.methodLink RX3 42 yJ0_charAt_5068e, Cond.instanceMethod yJ0_charAt_5068e, Cond.selects RJ0 yJ0_charAt_5068e yJ0_charAt_5068e, Cond.code yJ0_charAt_5068e cJ0_charAt_5068e 2 (some .char), Cond.methodLink RJ0 492 yJ0_isLatin1_aae02, Cond.instanceMethod yJ0_isLatin1_aae02, Cond.selects RJ0 yJ0_isLatin1_aae02 yJ0_isLatin1_aae02, Cond.code yJ0_isLatin1_aae02 cJ0_isLatin1_aae02 1 (some .boolean), Cond.methodLink RJ0 495 yJ1_charAt_3b067]
def wsX4_counter_r3 : List Cond := [Cond.static yJ1_charAt_3b067, Cond.initialized RJ1, Cond.code yJ1_charAt_3b067 cJ1_charAt_3b067 2 (some .char), Cond.methodLink RJ1 9 yJ0_checkIndex_df160, Cond.static yJ0_checkIndex_df160, Cond.code yJ0_checkIndex_df160 cJ0_checkIndex_df160 2 none, Cond.fieldLink RJ0 1053 "jdk/internal/util/Preconditions" "SIOOBE_FORMATTER" "Ljava/util/function/BiFunction;", Cond.methodLink RJ0 1059 yJ3_checkIndex_8e157, Cond.static yJ3_checkIndex_8e157, Cond.initialized RJ3, Cond.code yJ3_checkIndex_8e157 cJ3_checkIndex_8e157 3 (some .int), Cond.methodLink RJ0 498 yJ2_charAt_3b067, Cond.static yJ2_charAt_3b067, Cond.initialized RJ2, Cond.code yJ2_charAt_3b067 cJ2_charAt_3b067 2 (some .char), Cond.methodLink RJ2 67 yJ2_checkIndex_2214a, Cond.static yJ2_checkIndex_2214a, Cond.code yJ2_checkIndex_2214a cJ2_checkIndex_2214a 2 none, Cond.methodLink RJ2 48 yJ2_length_9d52b, Cond.static yJ2_length_9d52b, Cond.code yJ2_length_9d52b cJ2_length_9d52b 1 (some .int), Cond.methodLink RJ2 414 yJ0_checkIndex_df160, Cond.methodLink RJ2 71 yJ2_getChar_3b067, Cond.static yJ2_getChar_3b067]
def wsX4_counter_r4 : List Cond := [Cond.code yJ2_getChar_3b067 cJ2_getChar_3b067 2 (some .char), Cond.fieldLink RJ2 44 "java/lang/StringUTF16" "$assertionsDisabled" "Z", Cond.fieldLink RJ2 59 "java/lang/StringUTF16" "HI_BYTE_SHIFT" "I", Cond.fieldLink RJ2 63 "java/lang/StringUTF16" "LO_BYTE_SHIFT" "I", Cond.methodLink RX3 46 yX3_fits, Cond.instanceMethod yX3_fits, Cond.selects RX3 yX3_fits yX3_fits, Cond.code yX3_fits cX3_fits 4 (some .boolean), Cond.methodLink RX3 60 yX3_kindAt, Cond.instanceMethod yX3_kindAt, Cond.selects RX3 yX3_kindAt yX3_kindAt, Cond.code yX3_kindAt cX3_kindAt 3 (some .int), Cond.methodLink RX3 25 yJ0_indexOf_0f7a4, Cond.instanceMethod yJ0_indexOf_0f7a4, Cond.selects RJ0 yJ0_indexOf_0f7a4 yJ0_indexOf_0f7a4, Cond.code yJ0_indexOf_0f7a4 cJ0_indexOf_0f7a4 2 (some .int), Cond.methodLink RJ0 633 yJ0_indexOf_7cf53, Cond.instanceMethod yJ0_indexOf_7cf53, Cond.selects RJ0 yJ0_indexOf_7cf53 yJ0_indexOf_7cf53, Cond.code yJ0_indexOf_7cf53 cJ0_indexOf_7cf53 3 (some .int), Cond.methodLink RJ0 505 yJ0_length_8abf5, Cond.methodLink RJ0 637 yJ1_indexOf_4cfef, Cond.static yJ1_indexOf_4cfef, Cond.code yJ1_indexOf_4cfef cJ1_indexOf_4cfef 4 (some .int)]
def wsX4_counter_r5 : List Cond := [Cond.methodLink RJ1 92 Lib.Math.max.name, Cond.static Lib.Math.max.name, Cond.initialized "java/lang/Math", Cond.code Lib.Math.max.name Lib.Math.max.code 2 (some .int), Cond.methodLink RJ1 38 Lib.Math.min.name, Cond.static Lib.Math.min.name, Cond.code Lib.Math.min.name Lib.Math.min.code 2 (some .int), Cond.methodLink RJ1 88 yJ1_canEncode_9a6ad, Cond.static yJ1_canEncode_9a6ad, Cond.code yJ1_canEncode_9a6ad cJ1_canEncode_9a6ad 1 (some .boolean), Cond.methodLink RJ1 95 yJ1_indexOfChar_4cfef, Cond.static yJ1_indexOfChar_4cfef, Cond.code yJ1_indexOfChar_4cfef cJ1_indexOfChar_4cfef 6 (some .int), Cond.methodLink RJ0 640 yJ2_indexOf_4cfef, Cond.static yJ2_indexOf_4cfef, Cond.code yJ2_indexOf_4cfef cJ2_indexOf_4cfef 4 (some .int), Cond.methodLink RJ2 224 Lib.Math.max.name, Cond.methodLink RJ2 183 Lib.Math.min.name, Cond.constant RJ2 227 (65536), Cond.methodLink RJ2 228 yJ2_indexOfChar_4cfef, Cond.static yJ2_indexOfChar_4cfef, Cond.code yJ2_indexOfChar_4cfef cJ2_indexOfChar_4cfef 4 (some .int), Cond.methodLink RJ2 96 yJ2_checkBoundsBeginEnd_d044e, Cond.static yJ2_checkBoundsBeginEnd_d044e]
def wsX4_counter_r6 : List Cond := [Cond.code yJ2_checkBoundsBeginEnd_d044e cJ2_checkBoundsBeginEnd_d044e 3 none, Cond.methodLink RJ2 241 yJ0_checkBoundsBeginEnd_23922, Cond.static yJ0_checkBoundsBeginEnd_23922, Cond.code yJ0_checkBoundsBeginEnd_23922 cJ0_checkBoundsBeginEnd_23922 3 none, Cond.methodLink RJ0 1062 yJ3_checkFromToIndex_8c36e, Cond.static yJ3_checkFromToIndex_8c36e, Cond.code yJ3_checkFromToIndex_8c36e cJ3_checkFromToIndex_8c36e 4 (some .int), Cond.methodLink RJ2 244 yJ2_indexOfCharUnsafe_4cfef, Cond.static yJ2_indexOfCharUnsafe_4cfef, Cond.code yJ2_indexOfCharUnsafe_4cfef cJ2_indexOfCharUnsafe_4cfef 5 (some .int), Cond.methodLink RJ2 232 yJ2_indexOfSupplementary_4cfef, Cond.static yJ2_indexOfSupplementary_4cfef, Cond.code yJ2_indexOfSupplementary_4cfef cJ2_indexOfSupplementary_4cfef 7 (some .int), Cond.methodLink RJ2 164 yJ11_isValidCodePoint_9a6ad, Cond.static yJ11_isValidCodePoint_9a6ad, Cond.initialized RJ11, Cond.code yJ11_isValidCodePoint_9a6ad cJ11_isValidCodePoint_9a6ad 2 (some .boolean), Cond.methodLink RJ2 157 yJ11_highSurrogate_5068e, Cond.static yJ11_highSurrogate_5068e, Cond.code yJ11_highSurrogate_5068e cJ11_highSurrogate_5068e 1 (some .char), Cond.constant RJ11 110 (55232), Cond.methodLink RJ2 161 yJ11_lowSurrogate_5068e, Cond.static yJ11_lowSurrogate_5068e, Cond.code yJ11_lowSurrogate_5068e cJ11_lowSurrogate_5068e 1 (some .char)]
def wsX4_counter_r7 : List Cond := [Cond.constant RJ11 76 (56320), Cond.methodLink RX4 134 yX1_takeFrom, Cond.instanceMethod yX1_takeFrom, Cond.selects RX1 yX1_takeFrom yX1_takeFrom, Cond.initialized RX1, Cond.code yX1_takeFrom cX1_takeFrom 3 none, Cond.fieldLink RX1 22 "GritIsIssued$Office" "people" "I", Cond.fieldLink RX1 26 "GritIsIssued$Office" "store" "I", Cond.fieldLink RX1 29 "GritIsIssued$Office" "worn" "I", Cond.fieldLink RX1 32 "GritIsIssued$Office" "day" "I", Cond.methodLink RX1 35 yX1_at, Cond.instanceMethod yX1_at, Cond.selects RX1 yX1_at yX1_at, Cond.code yX1_at cX1_at 2 (some (.object "GritIsIssued$Person")), Cond.fieldLink RX1 11 "GritIsIssued$Office" "room" "[LGritIsIssued$Person;", Cond.fieldLink RX1 18 "GritIsIssued$Office" "nobody" "LGritIsIssued$Person;", Cond.methodLink RX1 39 yX2_takeFrom, Cond.instanceMethod yX2_takeFrom, Cond.selects RX2 yX2_takeFrom yX2_takeFrom, Cond.initialized RX2, Cond.code yX2_takeFrom cX2_takeFrom 2 none, Cond.fieldLink RX2 9 "GritIsIssued$Person" "kind" "I", Cond.fieldLink RX2 15 "GritIsIssued$Person" "figure" "I", Cond.fieldLink RX2 18 "GritIsIssued$Person" "has" "I"]
def wsX4_counter_r8 : List Cond := [Cond.fieldLink RX2 21 "GritIsIssued$Person" "due" "I", Cond.fieldLink RX2 24 "GritIsIssued$Person" "through" "I", Cond.fieldLink RX2 27 "GritIsIssued$Person" "shorts" "I", Cond.fieldLink RX2 30 "GritIsIssued$Person" "passed" "I", Cond.fieldLink RX2 33 "GritIsIssued$Person" "missed" "I", Cond.methodLink RX4 242 yX4_comes, Cond.instanceMethod yX4_comes, Cond.selects RX4 yX4_comes yX4_comes, Cond.code yX4_comes cX4_comes 3 (some .boolean), Cond.methodLink RX4 248 yX3_number, Cond.instanceMethod yX3_number, Cond.selects RX3 yX3_number yX3_number, Cond.code yX3_number cX3_number 5 (some .int), Cond.methodLink RX4 251 yX3_letterAt, Cond.methodLink RX4 254 yX3_kindAt, Cond.methodLink RX4 257 yX1_welcome, Cond.instanceMethod yX1_welcome, Cond.selects RX1 yX1_welcome yX1_welcome, Cond.code yX1_welcome cX1_welcome 5 (some .boolean), Cond.fieldLink RX1 43 "GritIsIssued$Person" "kind" "I", Cond.fieldLink RX1 46 "GritIsIssued$Person" "figure" "I", Cond.fieldLink RX1 49 "GritIsIssued$Person" "due" "I", Cond.methodLink RX4 107 yX1_issue, Cond.instanceMethod yX1_issue]
def wsX4_counter_r9 : List Cond := [Cond.selects RX1 yX1_issue yX1_issue, Cond.code yX1_issue cX1_issue 3 (some .boolean), Cond.fieldLink RX1 56 "GritIsIssued$Person" "has" "I", Cond.methodLink RX1 52 yX1_knows, Cond.instanceMethod yX1_knows, Cond.selects RX1 yX1_knows yX1_knows, Cond.code yX1_knows cX1_knows 2 (some .boolean), Cond.methodLink RX4 114 yX1_handIn, Cond.instanceMethod yX1_handIn, Cond.selects RX1 yX1_handIn yX1_handIn, Cond.code yX1_handIn cX1_handIn 3 (some .boolean), Cond.methodLink RX1 59 Lib.Math.min.name, Cond.methodLink RX1 65 yX1_wear, Cond.instanceMethod yX1_wear, Cond.selects RX1 yX1_wear yX1_wear, Cond.code yX1_wear cX1_wear 2 none, Cond.methodLink RX4 261 yX1_setDue, Cond.instanceMethod yX1_setDue, Cond.selects RX1 yX1_setDue yX1_setDue, Cond.code yX1_setDue cX1_setDue 3 (some .boolean), Cond.methodLink RX4 118 yX1_fill, Cond.instanceMethod yX1_fill, Cond.selects RX1 yX1_fill yX1_fill, Cond.code yX1_fill cX1_fill 2 (some .boolean)]
def wsX4_counter_r10 : List Cond := [Cond.methodLink RX4 264 yX1_daysCome, Cond.instanceMethod yX1_daysCome, Cond.selects RX1 yX1_daysCome yX1_daysCome, Cond.code yX1_daysCome cX1_daysCome 2 (some .boolean), Cond.methodLink RX1 69 yX1_daysGoBy, Cond.instanceMethod yX1_daysGoBy, Cond.selects RX1 yX1_daysGoBy yX1_daysGoBy, Cond.code yX1_daysGoBy cX1_daysGoBy 4 none, Cond.methodLink RX1 72 yX2_oneDay, Cond.instanceMethod yX2_oneDay, Cond.selects RX2 yX2_oneDay yX2_oneDay, Cond.code yX2_oneDay cX2_oneDay 3 (some .int), Cond.methodLink RX2 51 Lib.Math.min.name, Cond.methodLink RX2 36 yX0_needs, Cond.static yX0_needs, Cond.initialized RX0, Cond.code yX0_needs cX0_needs 4 (some .int), Cond.methodLink RX2 54 yX0_wears, Cond.static yX0_wears, Cond.code yX0_wears cX0_wears 2 (some .int), Cond.methodLink RX2 57 yX0_nextIn, Cond.static yX0_nextIn, Cond.code yX0_nextIn cX0_nextIn 2 (some .int), Cond.methodLink RX4 245 yX3_lengthAt]
def wsX4_counter_r11 : List Cond := [Cond.instanceMethod yX3_lengthAt, Cond.selects RX3 yX3_lengthAt yX3_lengthAt, Cond.code yX3_lengthAt cX3_lengthAt 2 (some .int)]
def wsX4_counter : List Cond := .code yX4_counter cX4_counter 2 (some .int) :: ((wsX4_counter_r1 ++ (wsX4_counter_r2 ++ (wsX4_counter_r3 ++ (wsX4_counter_r4 ++ (wsX4_counter_r5 ++ (wsX4_counter_r6 ++ (wsX4_counter_r7 ++ (wsX4_counter_r8 ++ (wsX4_counter_r9 ++ (wsX4_counter_r10 ++ wsX4_counter_r11)))))))))) ++ wsX40 ++ wsX30 ++ wsX10 ++ wsX20)
def wsX4_unknown : List Cond := .code yX4_unknown cX4_unknown 2 (some .int) :: ([.fieldLink RX4 10 "GritIsIssued" "now" "LGritIsIssued$Office;", .methodLink RX4 226 yX1_knows, .instanceMethod yX1_knows, .selects RX1 yX1_knows yX1_knows, .initialized RX1, .code yX1_knows cX1_knows 2 (some .boolean), .fieldLink RX1 22 "GritIsIssued$Office" "people" "I"] ++ wsX40 ++ wsX10)
def wsX4_other : List Cond := .code yX4_other cX4_other 2 (some .int) :: ([])
def wsX4_firstOf : List Cond := .code yX4_firstOf cX4_firstOf 3 (some .int) :: ([])
def wsX4_person_r1 : List Cond := [Cond.fieldLink RX4 10 "GritIsIssued" "now" "LGritIsIssued$Office;", Cond.fieldLink RX4 83 "GritIsIssued$Person" "kind" "I", Cond.fieldLink RX4 86 "GritIsIssued$Person" "figure" "I", Cond.fieldLink RX4 89 "GritIsIssued$Person" "has" "I", Cond.fieldLink RX4 92 "GritIsIssued$Person" "due" "I", Cond.fieldLink RX4 95 "GritIsIssued$Person" "through" "I", Cond.fieldLink RX4 98 "GritIsIssued$Person" "shorts" "I", Cond.methodLink RX4 69 yX4_unknown, Cond.instanceMethod yX4_unknown, Cond.selects RX4 yX4_unknown yX4_unknown, Cond.initialized RX4, Cond.code yX4_unknown cX4_unknown 2 (some .int), Cond.methodLink RX4 226 yX1_knows, Cond.instanceMethod yX1_knows, Cond.selects RX1 yX1_knows yX1_knows, Cond.initialized RX1, Cond.code yX1_knows cX1_knows 2 (some .boolean), Cond.fieldLink RX1 22 "GritIsIssued$Office" "people" "I", Cond.methodLink RX4 72 yX4_other, Cond.static yX4_other, Cond.code yX4_other cX4_other 2 (some .int), Cond.methodLink RX4 76 yX4_firstOf, Cond.static yX4_firstOf, Cond.code yX4_firstOf cX4_firstOf 3 (some .int)]
def wsX4_person_r2 : List Cond := [Cond.methodLink RX4 57 yX4_refused, Cond.instanceMethod yX4_refused, Cond.selects RX4 yX4_refused yX4_refused, Cond.code yX4_refused cX4_refused 3 (some .int), Cond.fieldLink RX4 40 "GritIsIssued" "refusals" "[I", Cond.methodLink RX4 79 yX1_at, Cond.instanceMethod yX1_at, Cond.selects RX1 yX1_at yX1_at, Cond.code yX1_at cX1_at 2 (some (.object "GritIsIssued$Person")), Cond.fieldLink RX1 11 "GritIsIssued$Office" "room" "[LGritIsIssued$Person;", Cond.fieldLink RX1 18 "GritIsIssued$Office" "nobody" "LGritIsIssued$Person;", Cond.methodLink RX4 101 yX2_needed, Cond.instanceMethod yX2_needed, Cond.selects RX2 yX2_needed yX2_needed, Cond.initialized RX2, Cond.code yX2_needed cX2_needed 1 (some .int), Cond.fieldLink RX2 9 "GritIsIssued$Person" "kind" "I", Cond.fieldLink RX2 15 "GritIsIssued$Person" "figure" "I", Cond.methodLink RX2 36 yX0_needs, Cond.static yX0_needs, Cond.initialized RX0, Cond.code yX0_needs cX0_needs 4 (some .int), Cond.methodLink RX4 104 yX2_lacking, Cond.instanceMethod yX2_lacking]
def wsX4_person_r3 : List Cond := [Cond.selects RX2 yX2_lacking yX2_lacking, Cond.code yX2_lacking cX2_lacking 1 (some .int), Cond.fieldLink RX2 21 "GritIsIssued$Person" "due" "I", Cond.fieldLink RX2 18 "GritIsIssued$Person" "has" "I", Cond.methodLink RX2 46 Lib.Math.max.name, Cond.static Lib.Math.max.name, Cond.initialized "java/lang/Math", Cond.code Lib.Math.max.name Lib.Math.max.code 2 (some .int), Cond.methodLink RX2 42 yX2_needed]
def wsX4_person : List Cond := .code yX4_person cX4_person 5 (some .int) :: ((wsX4_person_r1 ++ (wsX4_person_r2 ++ wsX4_person_r3)) ++ wsX40 ++ wsX20 ++ wsX10)
def wsX4_issues_r1 : List Cond := [Cond.fieldLink RX4 10 "GritIsIssued" "now" "LGritIsIssued$Office;", Cond.fieldLink RX4 111 "GritIsIssued$Office" "store" "I", Cond.methodLink RX4 69 yX4_unknown, Cond.instanceMethod yX4_unknown, Cond.selects RX4 yX4_unknown yX4_unknown, Cond.initialized RX4, Cond.code yX4_unknown cX4_unknown 2 (some .int), Cond.methodLink RX4 226 yX1_knows, Cond.instanceMethod yX1_knows, Cond.selects RX1 yX1_knows yX1_knows, Cond.initialized RX1, Cond.code yX1_knows cX1_knows 2 (some .boolean), Cond.fieldLink RX1 22 "GritIsIssued$Office" "people" "I", Cond.methodLink RX4 49 yX4_outside, Cond.static yX4_outside, Cond.code yX4_outside cX4_outside 3 (some .int), Cond.methodLink RX4 76 yX4_firstOf, Cond.static yX4_firstOf, Cond.code yX4_firstOf cX4_firstOf 3 (some .int), Cond.methodLink RX4 57 yX4_refused, Cond.instanceMethod yX4_refused, Cond.selects RX4 yX4_refused yX4_refused, Cond.code yX4_refused cX4_refused 3 (some .int), Cond.fieldLink RX4 40 "GritIsIssued" "refusals" "[I"]
def wsX4_issues_r2 : List Cond := [Cond.methodLink RX4 107 yX1_issue, Cond.instanceMethod yX1_issue, Cond.selects RX1 yX1_issue yX1_issue, Cond.code yX1_issue cX1_issue 3 (some .boolean), Cond.fieldLink RX1 26 "GritIsIssued$Office" "store" "I", Cond.fieldLink RX1 56 "GritIsIssued$Person" "has" "I", Cond.methodLink RX1 52 yX1_knows, Cond.methodLink RX1 35 yX1_at, Cond.instanceMethod yX1_at, Cond.selects RX1 yX1_at yX1_at, Cond.code yX1_at cX1_at 2 (some (.object "GritIsIssued$Person")), Cond.fieldLink RX1 11 "GritIsIssued$Office" "room" "[LGritIsIssued$Person;", Cond.fieldLink RX1 18 "GritIsIssued$Office" "nobody" "LGritIsIssued$Person;"]
def wsX4_issues : List Cond := .code yX4_issues cX4_issues 4 (some .int) :: ((wsX4_issues_r1 ++ wsX4_issues_r2) ++ wsX40 ++ wsX10 ++ wsX20)
def wsX4_returns_r1 : List Cond := [Cond.fieldLink RX4 10 "GritIsIssued" "now" "LGritIsIssued$Office;", Cond.fieldLink RX4 89 "GritIsIssued$Person" "has" "I", Cond.fieldLink RX4 111 "GritIsIssued$Office" "store" "I", Cond.methodLink RX4 69 yX4_unknown, Cond.instanceMethod yX4_unknown, Cond.selects RX4 yX4_unknown yX4_unknown, Cond.initialized RX4, Cond.code yX4_unknown cX4_unknown 2 (some .int), Cond.methodLink RX4 226 yX1_knows, Cond.instanceMethod yX1_knows, Cond.selects RX1 yX1_knows yX1_knows, Cond.initialized RX1, Cond.code yX1_knows cX1_knows 2 (some .boolean), Cond.fieldLink RX1 22 "GritIsIssued$Office" "people" "I", Cond.methodLink RX4 79 yX1_at, Cond.instanceMethod yX1_at, Cond.selects RX1 yX1_at yX1_at, Cond.code yX1_at cX1_at 2 (some (.object "GritIsIssued$Person")), Cond.fieldLink RX1 11 "GritIsIssued$Office" "room" "[LGritIsIssued$Person;", Cond.fieldLink RX1 18 "GritIsIssued$Office" "nobody" "LGritIsIssued$Person;", Cond.methodLink RX4 57 yX4_refused, Cond.instanceMethod yX4_refused, Cond.selects RX4 yX4_refused yX4_refused, Cond.code yX4_refused cX4_refused 3 (some .int)]
def wsX4_returns_r2 : List Cond := [Cond.fieldLink RX4 40 "GritIsIssued" "refusals" "[I", Cond.methodLink RX4 114 yX1_handIn, Cond.instanceMethod yX1_handIn, Cond.selects RX1 yX1_handIn yX1_handIn, Cond.code yX1_handIn cX1_handIn 3 (some .boolean), Cond.fieldLink RX1 26 "GritIsIssued$Office" "store" "I", Cond.fieldLink RX1 56 "GritIsIssued$Person" "has" "I", Cond.methodLink RX1 59 Lib.Math.min.name, Cond.static Lib.Math.min.name, Cond.initialized "java/lang/Math", Cond.code Lib.Math.min.name Lib.Math.min.code 2 (some .int), Cond.methodLink RX1 52 yX1_knows, Cond.methodLink RX1 35 yX1_at, Cond.methodLink RX1 65 yX1_wear, Cond.instanceMethod yX1_wear, Cond.selects RX1 yX1_wear yX1_wear, Cond.code yX1_wear cX1_wear 2 none, Cond.fieldLink RX1 29 "GritIsIssued$Office" "worn" "I"]
def wsX4_returns : List Cond := .code yX4_returns cX4_returns 3 (some .int) :: ((wsX4_returns_r1 ++ wsX4_returns_r2) ++ wsX40 ++ wsX20 ++ wsX10)
def wsX4_due_r1 : List Cond := [Cond.fieldLink RX4 10 "GritIsIssued" "now" "LGritIsIssued$Office;", Cond.fieldLink RX4 92 "GritIsIssued$Person" "due" "I", Cond.methodLink RX4 69 yX4_unknown, Cond.instanceMethod yX4_unknown, Cond.selects RX4 yX4_unknown yX4_unknown, Cond.initialized RX4, Cond.code yX4_unknown cX4_unknown 2 (some .int), Cond.methodLink RX4 226 yX1_knows, Cond.instanceMethod yX1_knows, Cond.selects RX1 yX1_knows yX1_knows, Cond.initialized RX1, Cond.code yX1_knows cX1_knows 2 (some .boolean), Cond.fieldLink RX1 22 "GritIsIssued$Office" "people" "I", Cond.methodLink RX4 49 yX4_outside, Cond.static yX4_outside, Cond.code yX4_outside cX4_outside 3 (some .int), Cond.methodLink RX4 76 yX4_firstOf, Cond.static yX4_firstOf, Cond.code yX4_firstOf cX4_firstOf 3 (some .int), Cond.methodLink RX4 57 yX4_refused, Cond.instanceMethod yX4_refused, Cond.selects RX4 yX4_refused yX4_refused, Cond.code yX4_refused cX4_refused 3 (some .int), Cond.fieldLink RX4 40 "GritIsIssued" "refusals" "[I"]
def wsX4_due_r2 : List Cond := [Cond.methodLink RX4 79 yX1_at, Cond.instanceMethod yX1_at, Cond.selects RX1 yX1_at yX1_at, Cond.code yX1_at cX1_at 2 (some (.object "GritIsIssued$Person")), Cond.fieldLink RX1 11 "GritIsIssued$Office" "room" "[LGritIsIssued$Person;", Cond.fieldLink RX1 18 "GritIsIssued$Office" "nobody" "LGritIsIssued$Person;"]
def wsX4_due : List Cond := .code yX4_due cX4_due 6 (some .int) :: ((wsX4_due_r1 ++ wsX4_due_r2) ++ wsX40 ++ wsX20 ++ wsX10)
def wsX4_fills : List Cond := .code yX4_fills cX4_fills 3 (some .int) :: ([.fieldLink RX4 10 "GritIsIssued" "now" "LGritIsIssued$Office;", .fieldLink RX4 111 "GritIsIssued$Office" "store" "I", .methodLink RX4 49 yX4_outside, .static yX4_outside, .initialized RX4, .code yX4_outside cX4_outside 3 (some .int), .methodLink RX4 57 yX4_refused, .instanceMethod yX4_refused, .selects RX4 yX4_refused yX4_refused, .code yX4_refused cX4_refused 3 (some .int), .fieldLink RX4 40 "GritIsIssued" "refusals" "[I", .methodLink RX4 118 yX1_fill, .instanceMethod yX1_fill, .selects RX1 yX1_fill yX1_fill, .initialized RX1, .code yX1_fill cX1_fill 2 (some .boolean), .fieldLink RX1 26 "GritIsIssued$Office" "store" "I"] ++ wsX40 ++ wsX10)
def wsX4_turn_r1 : List Cond := [Cond.fieldLink RX4 10 "GritIsIssued" "now" "LGritIsIssued$Office;", Cond.fieldLink RX4 83 "GritIsIssued$Person" "kind" "I", Cond.fieldLink RX4 86 "GritIsIssued$Person" "figure" "I", Cond.methodLink RX4 69 yX4_unknown, Cond.instanceMethod yX4_unknown, Cond.selects RX4 yX4_unknown yX4_unknown, Cond.initialized RX4, Cond.code yX4_unknown cX4_unknown 2 (some .int), Cond.methodLink RX4 226 yX1_knows, Cond.instanceMethod yX1_knows, Cond.selects RX1 yX1_knows yX1_knows, Cond.initialized RX1, Cond.code yX1_knows cX1_knows 2 (some .boolean), Cond.fieldLink RX1 22 "GritIsIssued$Office" "people" "I", Cond.methodLink RX4 72 yX4_other, Cond.static yX4_other, Cond.code yX4_other cX4_other 2 (some .int), Cond.methodLink RX4 49 yX4_outside, Cond.static yX4_outside, Cond.code yX4_outside cX4_outside 3 (some .int), Cond.methodLink RX4 76 yX4_firstOf, Cond.static yX4_firstOf, Cond.code yX4_firstOf cX4_firstOf 3 (some .int), Cond.methodLink RX4 57 yX4_refused]
def wsX4_turn_r2 : List Cond := [Cond.instanceMethod yX4_refused, Cond.selects RX4 yX4_refused yX4_refused, Cond.code yX4_refused cX4_refused 3 (some .int), Cond.fieldLink RX4 40 "GritIsIssued" "refusals" "[I", Cond.methodLink RX4 79 yX1_at, Cond.instanceMethod yX1_at, Cond.selects RX1 yX1_at yX1_at, Cond.code yX1_at cX1_at 2 (some (.object "GritIsIssued$Person")), Cond.fieldLink RX1 11 "GritIsIssued$Office" "room" "[LGritIsIssued$Person;", Cond.fieldLink RX1 18 "GritIsIssued$Office" "nobody" "LGritIsIssued$Person;"]
def wsX4_turn : List Cond := .code yX4_turn cX4_turn 7 (some .int) :: ((wsX4_turn_r1 ++ wsX4_turn_r2) ++ wsX40 ++ wsX20 ++ wsX10)
def wsX4_days_r1 : List Cond := [Cond.fieldLink RX4 10 "GritIsIssued" "now" "LGritIsIssued$Office;", Cond.fieldLink RX4 121 "GritIsIssued$Office" "day" "I", Cond.methodLink RX4 49 yX4_outside, Cond.static yX4_outside, Cond.initialized RX4, Cond.code yX4_outside cX4_outside 3 (some .int), Cond.methodLink RX4 57 yX4_refused, Cond.instanceMethod yX4_refused, Cond.selects RX4 yX4_refused yX4_refused, Cond.code yX4_refused cX4_refused 3 (some .int), Cond.fieldLink RX4 40 "GritIsIssued" "refusals" "[I", Cond.methodLink RX4 124 yX1_allThrough, Cond.instanceMethod yX1_allThrough, Cond.selects RX1 yX1_allThrough yX1_allThrough, Cond.initialized RX1, Cond.code yX1_allThrough cX1_allThrough 3 (some .int), Cond.fieldLink RX1 22 "GritIsIssued$Office" "people" "I", Cond.fieldLink RX1 86 "GritIsIssued$Person" "through" "I", Cond.methodLink RX1 35 yX1_at, Cond.instanceMethod yX1_at, Cond.selects RX1 yX1_at yX1_at, Cond.code yX1_at cX1_at 2 (some (.object "GritIsIssued$Person")), Cond.fieldLink RX1 11 "GritIsIssued$Office" "room" "[LGritIsIssued$Person;", Cond.fieldLink RX1 18 "GritIsIssued$Office" "nobody" "LGritIsIssued$Person;"]
def wsX4_days_r2 : List Cond := [Cond.methodLink RX4 127 yX1_daysGoBy, Cond.instanceMethod yX1_daysGoBy, Cond.selects RX1 yX1_daysGoBy yX1_daysGoBy, Cond.code yX1_daysGoBy cX1_daysGoBy 4 none, Cond.fieldLink RX1 32 "GritIsIssued$Office" "day" "I", Cond.methodLink RX1 72 yX2_oneDay, Cond.instanceMethod yX2_oneDay, Cond.selects RX2 yX2_oneDay yX2_oneDay, Cond.initialized RX2, Cond.code yX2_oneDay cX2_oneDay 3 (some .int), Cond.fieldLink RX2 21 "GritIsIssued$Person" "due" "I", Cond.fieldLink RX2 9 "GritIsIssued$Person" "kind" "I", Cond.fieldLink RX2 15 "GritIsIssued$Person" "figure" "I", Cond.fieldLink RX2 18 "GritIsIssued$Person" "has" "I", Cond.fieldLink RX2 30 "GritIsIssued$Person" "passed" "I", Cond.fieldLink RX2 24 "GritIsIssued$Person" "through" "I", Cond.methodLink RX2 51 Lib.Math.min.name, Cond.static Lib.Math.min.name, Cond.initialized "java/lang/Math", Cond.code Lib.Math.min.name Lib.Math.min.code 2 (some .int), Cond.fieldLink RX2 33 "GritIsIssued$Person" "missed" "I", Cond.fieldLink RX2 27 "GritIsIssued$Person" "shorts" "I", Cond.methodLink RX2 36 yX0_needs, Cond.static yX0_needs]
def wsX4_days_r3 : List Cond := [Cond.initialized RX0, Cond.code yX0_needs cX0_needs 4 (some .int), Cond.methodLink RX2 54 yX0_wears, Cond.static yX0_wears, Cond.code yX0_wears cX0_wears 2 (some .int), Cond.methodLink RX2 57 yX0_nextIn, Cond.static yX0_nextIn, Cond.code yX0_nextIn cX0_nextIn 2 (some .int), Cond.methodLink RX1 65 yX1_wear, Cond.instanceMethod yX1_wear, Cond.selects RX1 yX1_wear yX1_wear, Cond.code yX1_wear cX1_wear 2 none, Cond.fieldLink RX1 29 "GritIsIssued$Office" "worn" "I", Cond.methodLink RX1 59 Lib.Math.min.name]
def wsX4_days : List Cond := .code yX4_days cX4_days 4 (some .int) :: ((wsX4_days_r1 ++ (wsX4_days_r2 ++ wsX4_days_r3)) ++ wsX40 ++ wsX10 ++ wsX20)
def wsX4_thought_r1 : List Cond := [Cond.fieldLink RX4 25 "GritIsIssued" "trial" "LGritIsIssued$Person;", Cond.fieldLink RX4 10 "GritIsIssued" "now" "LGritIsIssued$Office;", Cond.fieldLink RX4 89 "GritIsIssued$Person" "has" "I", Cond.methodLink RX4 79 yX1_at, Cond.instanceMethod yX1_at, Cond.selects RX1 yX1_at yX1_at, Cond.initialized RX1, Cond.code yX1_at cX1_at 2 (some (.object "GritIsIssued$Person")), Cond.fieldLink RX1 11 "GritIsIssued$Office" "room" "[LGritIsIssued$Person;", Cond.fieldLink RX1 18 "GritIsIssued$Office" "nobody" "LGritIsIssued$Person;", Cond.methodLink RX4 147 yX2_takeFrom, Cond.instanceMethod yX2_takeFrom, Cond.selects RX2 yX2_takeFrom yX2_takeFrom, Cond.initialized RX2, Cond.code yX2_takeFrom cX2_takeFrom 2 none, Cond.fieldLink RX2 9 "GritIsIssued$Person" "kind" "I", Cond.fieldLink RX2 15 "GritIsIssued$Person" "figure" "I", Cond.fieldLink RX2 18 "GritIsIssued$Person" "has" "I", Cond.fieldLink RX2 21 "GritIsIssued$Person" "due" "I", Cond.fieldLink RX2 24 "GritIsIssued$Person" "through" "I", Cond.fieldLink RX2 27 "GritIsIssued$Person" "shorts" "I", Cond.fieldLink RX2 30 "GritIsIssued$Person" "passed" "I", Cond.fieldLink RX2 33 "GritIsIssued$Person" "missed" "I", Cond.methodLink RX4 153 yX2_oneDay]
def wsX4_thought_r2 : List Cond := [Cond.instanceMethod yX2_oneDay, Cond.selects RX2 yX2_oneDay yX2_oneDay, Cond.code yX2_oneDay cX2_oneDay 3 (some .int), Cond.methodLink RX2 51 Lib.Math.min.name, Cond.static Lib.Math.min.name, Cond.initialized "java/lang/Math", Cond.code Lib.Math.min.name Lib.Math.min.code 2 (some .int), Cond.methodLink RX2 36 yX0_needs, Cond.static yX0_needs, Cond.initialized RX0, Cond.code yX0_needs cX0_needs 4 (some .int), Cond.methodLink RX2 54 yX0_wears, Cond.static yX0_wears, Cond.code yX0_wears cX0_wears 2 (some .int), Cond.methodLink RX2 57 yX0_nextIn, Cond.static yX0_nextIn, Cond.code yX0_nextIn cX0_nextIn 2 (some .int)]
def wsX4_thought : List Cond := .code yX4_thought cX4_thought 5 (some (.object "GritIsIssued$Person")) :: ((wsX4_thought_r1 ++ wsX4_thought_r2) ++ wsX40 ++ wsX20 ++ wsX10)
def wsX4_personThen_r1 : List Cond := [Cond.fieldLink RX4 10 "GritIsIssued" "now" "LGritIsIssued$Office;", Cond.fieldLink RX4 89 "GritIsIssued$Person" "has" "I", Cond.fieldLink RX4 92 "GritIsIssued$Person" "due" "I", Cond.fieldLink RX4 95 "GritIsIssued$Person" "through" "I", Cond.fieldLink RX4 98 "GritIsIssued$Person" "shorts" "I", Cond.methodLink RX4 69 yX4_unknown, Cond.instanceMethod yX4_unknown, Cond.selects RX4 yX4_unknown yX4_unknown, Cond.initialized RX4, Cond.code yX4_unknown cX4_unknown 2 (some .int), Cond.methodLink RX4 226 yX1_knows, Cond.instanceMethod yX1_knows, Cond.selects RX1 yX1_knows yX1_knows, Cond.initialized RX1, Cond.code yX1_knows cX1_knows 2 (some .boolean), Cond.fieldLink RX1 22 "GritIsIssued$Office" "people" "I", Cond.methodLink RX4 49 yX4_outside, Cond.static yX4_outside, Cond.code yX4_outside cX4_outside 3 (some .int), Cond.methodLink RX4 72 yX4_other, Cond.static yX4_other, Cond.code yX4_other cX4_other 2 (some .int), Cond.methodLink RX4 76 yX4_firstOf, Cond.static yX4_firstOf]
def wsX4_personThen_r2 : List Cond := [Cond.code yX4_firstOf cX4_firstOf 3 (some .int), Cond.methodLink RX4 57 yX4_refused, Cond.instanceMethod yX4_refused, Cond.selects RX4 yX4_refused yX4_refused, Cond.code yX4_refused cX4_refused 3 (some .int), Cond.fieldLink RX4 40 "GritIsIssued" "refusals" "[I", Cond.methodLink RX4 79 yX1_at, Cond.instanceMethod yX1_at, Cond.selects RX1 yX1_at yX1_at, Cond.code yX1_at cX1_at 2 (some (.object "GritIsIssued$Person")), Cond.fieldLink RX1 11 "GritIsIssued$Office" "room" "[LGritIsIssued$Person;", Cond.fieldLink RX1 18 "GritIsIssued$Office" "nobody" "LGritIsIssued$Person;", Cond.methodLink RX4 130 yX4_thought, Cond.instanceMethod yX4_thought, Cond.selects RX4 yX4_thought yX4_thought, Cond.code yX4_thought cX4_thought 5 (some (.object "GritIsIssued$Person")), Cond.fieldLink RX4 25 "GritIsIssued" "trial" "LGritIsIssued$Person;", Cond.methodLink RX4 147 yX2_takeFrom, Cond.instanceMethod yX2_takeFrom, Cond.selects RX2 yX2_takeFrom yX2_takeFrom, Cond.initialized RX2, Cond.code yX2_takeFrom cX2_takeFrom 2 none, Cond.fieldLink RX2 9 "GritIsIssued$Person" "kind" "I", Cond.fieldLink RX2 15 "GritIsIssued$Person" "figure" "I"]
def wsX4_personThen_r3 : List Cond := [Cond.fieldLink RX2 18 "GritIsIssued$Person" "has" "I", Cond.fieldLink RX2 21 "GritIsIssued$Person" "due" "I", Cond.fieldLink RX2 24 "GritIsIssued$Person" "through" "I", Cond.fieldLink RX2 27 "GritIsIssued$Person" "shorts" "I", Cond.fieldLink RX2 30 "GritIsIssued$Person" "passed" "I", Cond.fieldLink RX2 33 "GritIsIssued$Person" "missed" "I", Cond.methodLink RX4 153 yX2_oneDay, Cond.instanceMethod yX2_oneDay, Cond.selects RX2 yX2_oneDay yX2_oneDay, Cond.code yX2_oneDay cX2_oneDay 3 (some .int), Cond.methodLink RX2 51 Lib.Math.min.name, Cond.static Lib.Math.min.name, Cond.initialized "java/lang/Math", Cond.code Lib.Math.min.name Lib.Math.min.code 2 (some .int), Cond.methodLink RX2 36 yX0_needs, Cond.static yX0_needs, Cond.initialized RX0, Cond.code yX0_needs cX0_needs 4 (some .int), Cond.methodLink RX2 54 yX0_wears, Cond.static yX0_wears, Cond.code yX0_wears cX0_wears 2 (some .int), Cond.methodLink RX2 57 yX0_nextIn, Cond.static yX0_nextIn, Cond.code yX0_nextIn cX0_nextIn 2 (some .int)]
def wsX4_personThen : List Cond := .code yX4_personThen cX4_personThen 7 (some .int) :: ((wsX4_personThen_r1 ++ (wsX4_personThen_r2 ++ wsX4_personThen_r3)) ++ wsX40 ++ wsX20 ++ wsX10)
def wsX4_allThen_r1 : List Cond := [Cond.fieldLink RX4 16 "GritIsIssued" "mind" "LGritIsIssued$Office;", Cond.fieldLink RX4 10 "GritIsIssued" "now" "LGritIsIssued$Office;", Cond.fieldLink RX4 141 "GritIsIssued$Office" "worn" "I", Cond.methodLink RX4 49 yX4_outside, Cond.static yX4_outside, Cond.initialized RX4, Cond.code yX4_outside cX4_outside 3 (some .int), Cond.methodLink RX4 72 yX4_other, Cond.static yX4_other, Cond.code yX4_other cX4_other 2 (some .int), Cond.methodLink RX4 76 yX4_firstOf, Cond.static yX4_firstOf, Cond.code yX4_firstOf cX4_firstOf 3 (some .int), Cond.methodLink RX4 57 yX4_refused, Cond.instanceMethod yX4_refused, Cond.selects RX4 yX4_refused yX4_refused, Cond.code yX4_refused cX4_refused 3 (some .int), Cond.fieldLink RX4 40 "GritIsIssued" "refusals" "[I", Cond.methodLink RX4 134 yX1_takeFrom, Cond.instanceMethod yX1_takeFrom, Cond.selects RX1 yX1_takeFrom yX1_takeFrom, Cond.initialized RX1, Cond.code yX1_takeFrom cX1_takeFrom 3 none, Cond.fieldLink RX1 22 "GritIsIssued$Office" "people" "I"]
def wsX4_allThen_r2 : List Cond := [Cond.fieldLink RX1 26 "GritIsIssued$Office" "store" "I", Cond.fieldLink RX1 29 "GritIsIssued$Office" "worn" "I", Cond.fieldLink RX1 32 "GritIsIssued$Office" "day" "I", Cond.methodLink RX1 35 yX1_at, Cond.instanceMethod yX1_at, Cond.selects RX1 yX1_at yX1_at, Cond.code yX1_at cX1_at 2 (some (.object "GritIsIssued$Person")), Cond.fieldLink RX1 11 "GritIsIssued$Office" "room" "[LGritIsIssued$Person;", Cond.fieldLink RX1 18 "GritIsIssued$Office" "nobody" "LGritIsIssued$Person;", Cond.methodLink RX1 39 yX2_takeFrom, Cond.instanceMethod yX2_takeFrom, Cond.selects RX2 yX2_takeFrom yX2_takeFrom, Cond.initialized RX2, Cond.code yX2_takeFrom cX2_takeFrom 2 none, Cond.fieldLink RX2 9 "GritIsIssued$Person" "kind" "I", Cond.fieldLink RX2 15 "GritIsIssued$Person" "figure" "I", Cond.fieldLink RX2 18 "GritIsIssued$Person" "has" "I", Cond.fieldLink RX2 21 "GritIsIssued$Person" "due" "I", Cond.fieldLink RX2 24 "GritIsIssued$Person" "through" "I", Cond.fieldLink RX2 27 "GritIsIssued$Person" "shorts" "I", Cond.fieldLink RX2 30 "GritIsIssued$Person" "passed" "I", Cond.fieldLink RX2 33 "GritIsIssued$Person" "missed" "I", Cond.methodLink RX4 127 yX1_daysGoBy, Cond.instanceMethod yX1_daysGoBy]
def wsX4_allThen_r3 : List Cond := [Cond.selects RX1 yX1_daysGoBy yX1_daysGoBy, Cond.code yX1_daysGoBy cX1_daysGoBy 4 none, Cond.methodLink RX1 72 yX2_oneDay, Cond.instanceMethod yX2_oneDay, Cond.selects RX2 yX2_oneDay yX2_oneDay, Cond.code yX2_oneDay cX2_oneDay 3 (some .int), Cond.methodLink RX2 51 Lib.Math.min.name, Cond.static Lib.Math.min.name, Cond.initialized "java/lang/Math", Cond.code Lib.Math.min.name Lib.Math.min.code 2 (some .int), Cond.methodLink RX2 36 yX0_needs, Cond.static yX0_needs, Cond.initialized RX0, Cond.code yX0_needs cX0_needs 4 (some .int), Cond.methodLink RX2 54 yX0_wears, Cond.static yX0_wears, Cond.code yX0_wears cX0_wears 2 (some .int), Cond.methodLink RX2 57 yX0_nextIn, Cond.static yX0_nextIn, Cond.code yX0_nextIn cX0_nextIn 2 (some .int), Cond.methodLink RX1 65 yX1_wear, Cond.instanceMethod yX1_wear, Cond.selects RX1 yX1_wear yX1_wear, Cond.code yX1_wear cX1_wear 2 none]
def wsX4_allThen_r4 : List Cond := [Cond.methodLink RX1 59 Lib.Math.min.name, Cond.methodLink RX4 124 yX1_allThrough, Cond.instanceMethod yX1_allThrough, Cond.selects RX1 yX1_allThrough yX1_allThrough, Cond.code yX1_allThrough cX1_allThrough 3 (some .int), Cond.fieldLink RX1 86 "GritIsIssued$Person" "through" "I", Cond.methodLink RX4 138 yX1_allShort, Cond.instanceMethod yX1_allShort, Cond.selects RX1 yX1_allShort yX1_allShort, Cond.code yX1_allShort cX1_allShort 3 (some .int), Cond.fieldLink RX1 89 "GritIsIssued$Person" "shorts" "I"]
def wsX4_allThen : List Cond := .code yX4_allThen cX4_allThen 4 (some .int) :: ((wsX4_allThen_r1 ++ (wsX4_allThen_r2 ++ (wsX4_allThen_r3 ++ wsX4_allThen_r4))) ++ wsX40 ++ wsX10 ++ wsX20)
def wsX4_first_r1 : List Cond := [Cond.fieldLink RX4 16 "GritIsIssued" "mind" "LGritIsIssued$Office;", Cond.fieldLink RX4 10 "GritIsIssued" "now" "LGritIsIssued$Office;", Cond.methodLink RX4 72 yX4_other, Cond.static yX4_other, Cond.initialized RX4, Cond.code yX4_other cX4_other 2 (some .int), Cond.methodLink RX4 57 yX4_refused, Cond.instanceMethod yX4_refused, Cond.selects RX4 yX4_refused yX4_refused, Cond.code yX4_refused cX4_refused 3 (some .int), Cond.fieldLink RX4 40 "GritIsIssued" "refusals" "[I", Cond.methodLink RX4 134 yX1_takeFrom, Cond.instanceMethod yX1_takeFrom, Cond.selects RX1 yX1_takeFrom yX1_takeFrom, Cond.initialized RX1, Cond.code yX1_takeFrom cX1_takeFrom 3 none, Cond.fieldLink RX1 22 "GritIsIssued$Office" "people" "I", Cond.fieldLink RX1 26 "GritIsIssued$Office" "store" "I", Cond.fieldLink RX1 29 "GritIsIssued$Office" "worn" "I", Cond.fieldLink RX1 32 "GritIsIssued$Office" "day" "I", Cond.methodLink RX1 35 yX1_at, Cond.instanceMethod yX1_at, Cond.selects RX1 yX1_at yX1_at, Cond.code yX1_at cX1_at 2 (some (.object "GritIsIssued$Person"))]
def wsX4_first_r2 : List Cond := [Cond.fieldLink RX1 11 "GritIsIssued$Office" "room" "[LGritIsIssued$Person;", Cond.fieldLink RX1 18 "GritIsIssued$Office" "nobody" "LGritIsIssued$Person;", Cond.methodLink RX1 39 yX2_takeFrom, Cond.instanceMethod yX2_takeFrom, Cond.selects RX2 yX2_takeFrom yX2_takeFrom, Cond.initialized RX2, Cond.code yX2_takeFrom cX2_takeFrom 2 none, Cond.fieldLink RX2 9 "GritIsIssued$Person" "kind" "I", Cond.fieldLink RX2 15 "GritIsIssued$Person" "figure" "I", Cond.fieldLink RX2 18 "GritIsIssued$Person" "has" "I", Cond.fieldLink RX2 21 "GritIsIssued$Person" "due" "I", Cond.fieldLink RX2 24 "GritIsIssued$Person" "through" "I", Cond.fieldLink RX2 27 "GritIsIssued$Person" "shorts" "I", Cond.fieldLink RX2 30 "GritIsIssued$Person" "passed" "I", Cond.fieldLink RX2 33 "GritIsIssued$Person" "missed" "I", Cond.methodLink RX4 127 yX1_daysGoBy, Cond.instanceMethod yX1_daysGoBy, Cond.selects RX1 yX1_daysGoBy yX1_daysGoBy, Cond.code yX1_daysGoBy cX1_daysGoBy 4 none, Cond.methodLink RX1 72 yX2_oneDay, Cond.instanceMethod yX2_oneDay, Cond.selects RX2 yX2_oneDay yX2_oneDay, Cond.code yX2_oneDay cX2_oneDay 3 (some .int), Cond.methodLink RX2 51 Lib.Math.min.name]
def wsX4_first_r3 : List Cond := [Cond.static Lib.Math.min.name, Cond.initialized "java/lang/Math", Cond.code Lib.Math.min.name Lib.Math.min.code 2 (some .int), Cond.methodLink RX2 36 yX0_needs, Cond.static yX0_needs, Cond.initialized RX0, Cond.code yX0_needs cX0_needs 4 (some .int), Cond.methodLink RX2 54 yX0_wears, Cond.static yX0_wears, Cond.code yX0_wears cX0_wears 2 (some .int), Cond.methodLink RX2 57 yX0_nextIn, Cond.static yX0_nextIn, Cond.code yX0_nextIn cX0_nextIn 2 (some .int), Cond.methodLink RX1 65 yX1_wear, Cond.instanceMethod yX1_wear, Cond.selects RX1 yX1_wear yX1_wear, Cond.code yX1_wear cX1_wear 2 none, Cond.methodLink RX1 59 Lib.Math.min.name, Cond.methodLink RX4 144 yX1_firstMissing, Cond.instanceMethod yX1_firstMissing, Cond.selects RX1 yX1_firstMissing yX1_firstMissing, Cond.code yX1_firstMissing cX1_firstMissing 2 (some .int), Cond.fieldLink RX1 83 "GritIsIssued$Person" "missed" "I"]
def wsX4_first : List Cond := .code yX4_first cX4_first 5 (some .int) :: ((wsX4_first_r1 ++ (wsX4_first_r2 ++ wsX4_first_r3)) ++ wsX40 ++ wsX10 ++ wsX20)
def wsX4_lasts_r1 : List Cond := [Cond.fieldLink RX4 25 "GritIsIssued" "trial" "LGritIsIssued$Person;", Cond.fieldLink RX4 10 "GritIsIssued" "now" "LGritIsIssued$Office;", Cond.fieldLink RX4 150 "GritIsIssued$Person" "missed" "I", Cond.fieldLink RX4 156 "GritIsIssued$Person" "passed" "I", Cond.methodLink RX4 69 yX4_unknown, Cond.instanceMethod yX4_unknown, Cond.selects RX4 yX4_unknown yX4_unknown, Cond.initialized RX4, Cond.code yX4_unknown cX4_unknown 2 (some .int), Cond.methodLink RX4 226 yX1_knows, Cond.instanceMethod yX1_knows, Cond.selects RX1 yX1_knows yX1_knows, Cond.initialized RX1, Cond.code yX1_knows cX1_knows 2 (some .boolean), Cond.fieldLink RX1 22 "GritIsIssued$Office" "people" "I", Cond.methodLink RX4 57 yX4_refused, Cond.instanceMethod yX4_refused, Cond.selects RX4 yX4_refused yX4_refused, Cond.code yX4_refused cX4_refused 3 (some .int), Cond.fieldLink RX4 40 "GritIsIssued" "refusals" "[I", Cond.methodLink RX4 79 yX1_at, Cond.instanceMethod yX1_at, Cond.selects RX1 yX1_at yX1_at, Cond.code yX1_at cX1_at 2 (some (.object "GritIsIssued$Person"))]
def wsX4_lasts_r2 : List Cond := [Cond.fieldLink RX1 11 "GritIsIssued$Office" "room" "[LGritIsIssued$Person;", Cond.fieldLink RX1 18 "GritIsIssued$Office" "nobody" "LGritIsIssued$Person;", Cond.methodLink RX4 147 yX2_takeFrom, Cond.instanceMethod yX2_takeFrom, Cond.selects RX2 yX2_takeFrom yX2_takeFrom, Cond.initialized RX2, Cond.code yX2_takeFrom cX2_takeFrom 2 none, Cond.fieldLink RX2 9 "GritIsIssued$Person" "kind" "I", Cond.fieldLink RX2 15 "GritIsIssued$Person" "figure" "I", Cond.fieldLink RX2 18 "GritIsIssued$Person" "has" "I", Cond.fieldLink RX2 21 "GritIsIssued$Person" "due" "I", Cond.fieldLink RX2 24 "GritIsIssued$Person" "through" "I", Cond.fieldLink RX2 27 "GritIsIssued$Person" "shorts" "I", Cond.fieldLink RX2 30 "GritIsIssued$Person" "passed" "I", Cond.fieldLink RX2 33 "GritIsIssued$Person" "missed" "I", Cond.methodLink RX4 153 yX2_oneDay, Cond.instanceMethod yX2_oneDay, Cond.selects RX2 yX2_oneDay yX2_oneDay, Cond.code yX2_oneDay cX2_oneDay 3 (some .int), Cond.methodLink RX2 51 Lib.Math.min.name, Cond.static Lib.Math.min.name, Cond.initialized "java/lang/Math", Cond.code Lib.Math.min.name Lib.Math.min.code 2 (some .int), Cond.methodLink RX2 36 yX0_needs]
def wsX4_lasts_r3 : List Cond := [Cond.static yX0_needs, Cond.initialized RX0, Cond.code yX0_needs cX0_needs 4 (some .int), Cond.methodLink RX2 54 yX0_wears, Cond.static yX0_wears, Cond.code yX0_wears cX0_wears 2 (some .int), Cond.methodLink RX2 57 yX0_nextIn, Cond.static yX0_nextIn, Cond.code yX0_nextIn cX0_nextIn 2 (some .int)]
def wsX4_lasts : List Cond := .code yX4_lasts cX4_lasts 4 (some .int) :: ((wsX4_lasts_r1 ++ (wsX4_lasts_r2 ++ wsX4_lasts_r3)) ++ wsX40 ++ wsX20 ++ wsX10)
def wsX4_lacks_r1 : List Cond := [Cond.fieldLink RX4 10 "GritIsIssued" "now" "LGritIsIssued$Office;", Cond.fieldLink RX4 159 "GritIsIssued$Office" "people" "I", Cond.methodLink RX4 79 yX1_at, Cond.instanceMethod yX1_at, Cond.selects RX1 yX1_at yX1_at, Cond.initialized RX1, Cond.code yX1_at cX1_at 2 (some (.object "GritIsIssued$Person")), Cond.fieldLink RX1 11 "GritIsIssued$Office" "room" "[LGritIsIssued$Person;", Cond.fieldLink RX1 18 "GritIsIssued$Office" "nobody" "LGritIsIssued$Person;", Cond.methodLink RX4 104 yX2_lacking, Cond.instanceMethod yX2_lacking, Cond.selects RX2 yX2_lacking yX2_lacking, Cond.initialized RX2, Cond.code yX2_lacking cX2_lacking 1 (some .int), Cond.fieldLink RX2 21 "GritIsIssued$Person" "due" "I", Cond.fieldLink RX2 18 "GritIsIssued$Person" "has" "I", Cond.methodLink RX2 46 Lib.Math.max.name, Cond.static Lib.Math.max.name, Cond.initialized "java/lang/Math", Cond.code Lib.Math.max.name Lib.Math.max.code 2 (some .int), Cond.methodLink RX2 42 yX2_needed, Cond.instanceMethod yX2_needed, Cond.selects RX2 yX2_needed yX2_needed, Cond.code yX2_needed cX2_needed 1 (some .int)]
def wsX4_lacks_r2 : List Cond := [Cond.fieldLink RX2 9 "GritIsIssued$Person" "kind" "I", Cond.fieldLink RX2 15 "GritIsIssued$Person" "figure" "I", Cond.methodLink RX2 36 yX0_needs, Cond.static yX0_needs, Cond.initialized RX0, Cond.code yX0_needs cX0_needs 4 (some .int)]
def wsX4_lacks : List Cond := .code yX4_lacks cX4_lacks 3 (some .int) :: ((wsX4_lacks_r1 ++ wsX4_lacks_r2) ++ wsX40 ++ wsX10 ++ wsX20)
def wsX4_next : List Cond := .code yX4_next cX4_next 7 (some .int) :: ([.fieldLink RX4 10 "GritIsIssued" "now" "LGritIsIssued$Office;", .fieldLink RX4 159 "GritIsIssued$Office" "people" "I", .fieldLink RX4 92 "GritIsIssued$Person" "due" "I", .methodLink RX4 72 yX4_other, .static yX4_other, .initialized RX4, .code yX4_other cX4_other 2 (some .int), .methodLink RX4 57 yX4_refused, .instanceMethod yX4_refused, .selects RX4 yX4_refused yX4_refused, .code yX4_refused cX4_refused 3 (some .int), .fieldLink RX4 40 "GritIsIssued" "refusals" "[I", .methodLink RX4 79 yX1_at, .instanceMethod yX1_at, .selects RX1 yX1_at yX1_at, .initialized RX1, .code yX1_at cX1_at 2 (some (.object "GritIsIssued$Person")), .fieldLink RX1 11 "GritIsIssued$Office" "room" "[LGritIsIssued$Person;", .fieldLink RX1 18 "GritIsIssued$Office" "nobody" "LGritIsIssued$Person;"] ++ wsX40 ++ wsX10 ++ wsX20)
def wsX4_enough_r1 : List Cond := [Cond.fieldLink RX4 150 "GritIsIssued$Person" "missed" "I", Cond.methodLink RX4 69 yX4_unknown, Cond.instanceMethod yX4_unknown, Cond.selects RX4 yX4_unknown yX4_unknown, Cond.initialized RX4, Cond.code yX4_unknown cX4_unknown 2 (some .int), Cond.fieldLink RX4 10 "GritIsIssued" "now" "LGritIsIssued$Office;", Cond.methodLink RX4 226 yX1_knows, Cond.instanceMethod yX1_knows, Cond.selects RX1 yX1_knows yX1_knows, Cond.initialized RX1, Cond.code yX1_knows cX1_knows 2 (some .boolean), Cond.fieldLink RX1 22 "GritIsIssued$Office" "people" "I", Cond.methodLink RX4 49 yX4_outside, Cond.static yX4_outside, Cond.code yX4_outside cX4_outside 3 (some .int), Cond.methodLink RX4 76 yX4_firstOf, Cond.static yX4_firstOf, Cond.code yX4_firstOf cX4_firstOf 3 (some .int), Cond.methodLink RX4 57 yX4_refused, Cond.instanceMethod yX4_refused, Cond.selects RX4 yX4_refused yX4_refused, Cond.code yX4_refused cX4_refused 3 (some .int), Cond.fieldLink RX4 40 "GritIsIssued" "refusals" "[I"]
def wsX4_enough_r2 : List Cond := [Cond.methodLink RX4 130 yX4_thought, Cond.instanceMethod yX4_thought, Cond.selects RX4 yX4_thought yX4_thought, Cond.code yX4_thought cX4_thought 5 (some (.object "GritIsIssued$Person")), Cond.fieldLink RX4 25 "GritIsIssued" "trial" "LGritIsIssued$Person;", Cond.fieldLink RX4 89 "GritIsIssued$Person" "has" "I", Cond.methodLink RX4 79 yX1_at, Cond.instanceMethod yX1_at, Cond.selects RX1 yX1_at yX1_at, Cond.code yX1_at cX1_at 2 (some (.object "GritIsIssued$Person")), Cond.fieldLink RX1 11 "GritIsIssued$Office" "room" "[LGritIsIssued$Person;", Cond.fieldLink RX1 18 "GritIsIssued$Office" "nobody" "LGritIsIssued$Person;", Cond.methodLink RX4 147 yX2_takeFrom, Cond.instanceMethod yX2_takeFrom, Cond.selects RX2 yX2_takeFrom yX2_takeFrom, Cond.initialized RX2, Cond.code yX2_takeFrom cX2_takeFrom 2 none, Cond.fieldLink RX2 9 "GritIsIssued$Person" "kind" "I", Cond.fieldLink RX2 15 "GritIsIssued$Person" "figure" "I", Cond.fieldLink RX2 18 "GritIsIssued$Person" "has" "I", Cond.fieldLink RX2 21 "GritIsIssued$Person" "due" "I", Cond.fieldLink RX2 24 "GritIsIssued$Person" "through" "I", Cond.fieldLink RX2 27 "GritIsIssued$Person" "shorts" "I", Cond.fieldLink RX2 30 "GritIsIssued$Person" "passed" "I"]
def wsX4_enough_r3 : List Cond := [Cond.fieldLink RX2 33 "GritIsIssued$Person" "missed" "I", Cond.methodLink RX4 153 yX2_oneDay, Cond.instanceMethod yX2_oneDay, Cond.selects RX2 yX2_oneDay yX2_oneDay, Cond.code yX2_oneDay cX2_oneDay 3 (some .int), Cond.methodLink RX2 51 Lib.Math.min.name, Cond.static Lib.Math.min.name, Cond.initialized "java/lang/Math", Cond.code Lib.Math.min.name Lib.Math.min.code 2 (some .int), Cond.methodLink RX2 36 yX0_needs, Cond.static yX0_needs, Cond.initialized RX0, Cond.code yX0_needs cX0_needs 4 (some .int), Cond.methodLink RX2 54 yX0_wears, Cond.static yX0_wears, Cond.code yX0_wears cX0_wears 2 (some .int), Cond.methodLink RX2 57 yX0_nextIn, Cond.static yX0_nextIn, Cond.code yX0_nextIn cX0_nextIn 2 (some .int)]
def wsX4_enough : List Cond := .code yX4_enough cX4_enough 5 (some .int) :: ((wsX4_enough_r1 ++ (wsX4_enough_r2 ++ wsX4_enough_r3)) ++ wsX20 ++ wsX40 ++ wsX10)
def wsJ6_bitCount_0f7a4 : List Cond := .code yJ6_bitCount_0f7a4 cJ6_bitCount_0f7a4 1 (some .int) :: ([.constant RJ6 265 (1431655765), .constant RJ6 266 (858993459), .constant RJ6 267 (252645135)])
def wsX4_serve_r1 : List Cond := [Cond.fieldLink RX4 10 "GritIsIssued" "now" "LGritIsIssued$Office;", Cond.fieldLink RX4 159 "GritIsIssued$Office" "people" "I", Cond.fieldLink RX4 111 "GritIsIssued$Office" "store" "I", Cond.methodLink RX4 72 yX4_other, Cond.static yX4_other, Cond.initialized RX4, Cond.code yX4_other cX4_other 2 (some .int), Cond.methodLink RX4 57 yX4_refused, Cond.instanceMethod yX4_refused, Cond.selects RX4 yX4_refused yX4_refused, Cond.code yX4_refused cX4_refused 3 (some .int), Cond.fieldLink RX4 40 "GritIsIssued" "refusals" "[I", Cond.methodLink RX4 162 yJ6_bitCount_0f7a4, Cond.static yJ6_bitCount_0f7a4, Cond.initialized RJ6, Cond.code yJ6_bitCount_0f7a4 cJ6_bitCount_0f7a4 1 (some .int), Cond.constant RJ6 265 (1431655765), Cond.constant RJ6 266 (858993459), Cond.constant RJ6 267 (252645135), Cond.methodLink RX4 167 yX1_lackAll, Cond.instanceMethod yX1_lackAll, Cond.selects RX1 yX1_lackAll yX1_lackAll, Cond.initialized RX1, Cond.code yX1_lackAll cX1_lackAll 3 (some .boolean)]
def wsX4_serve_r2 : List Cond := [Cond.fieldLink RX1 22 "GritIsIssued$Office" "people" "I", Cond.methodLink RX1 35 yX1_at, Cond.instanceMethod yX1_at, Cond.selects RX1 yX1_at yX1_at, Cond.code yX1_at cX1_at 2 (some (.object "GritIsIssued$Person")), Cond.fieldLink RX1 11 "GritIsIssued$Office" "room" "[LGritIsIssued$Person;", Cond.fieldLink RX1 18 "GritIsIssued$Office" "nobody" "LGritIsIssued$Person;", Cond.methodLink RX1 76 yX2_lacking, Cond.instanceMethod yX2_lacking, Cond.selects RX2 yX2_lacking yX2_lacking, Cond.initialized RX2, Cond.code yX2_lacking cX2_lacking 1 (some .int), Cond.fieldLink RX2 21 "GritIsIssued$Person" "due" "I", Cond.fieldLink RX2 18 "GritIsIssued$Person" "has" "I", Cond.methodLink RX2 46 Lib.Math.max.name, Cond.static Lib.Math.max.name, Cond.initialized "java/lang/Math", Cond.code Lib.Math.max.name Lib.Math.max.code 2 (some .int), Cond.methodLink RX2 42 yX2_needed, Cond.instanceMethod yX2_needed, Cond.selects RX2 yX2_needed yX2_needed, Cond.code yX2_needed cX2_needed 1 (some .int), Cond.fieldLink RX2 9 "GritIsIssued$Person" "kind" "I", Cond.fieldLink RX2 15 "GritIsIssued$Person" "figure" "I"]
def wsX4_serve_r3 : List Cond := [Cond.methodLink RX2 36 yX0_needs, Cond.static yX0_needs, Cond.initialized RX0, Cond.code yX0_needs cX0_needs 4 (some .int), Cond.methodLink RX4 170 yX1_lackOf, Cond.instanceMethod yX1_lackOf, Cond.selects RX1 yX1_lackOf yX1_lackOf, Cond.code yX1_lackOf cX1_lackOf 4 (some .int)]
def wsX4_serve : List Cond := .code yX4_serve cX4_serve 7 (some .int) :: ((wsX4_serve_r1 ++ (wsX4_serve_r2 ++ wsX4_serve_r3)) ++ wsX40 ++ wsX10 ++ wsX20)
def wsX4_throughMore_r1 : List Cond := [Cond.fieldLink RX4 95 "GritIsIssued$Person" "through" "I", Cond.fieldLink RX4 10 "GritIsIssued" "now" "LGritIsIssued$Office;", Cond.methodLink RX4 130 yX4_thought, Cond.instanceMethod yX4_thought, Cond.selects RX4 yX4_thought yX4_thought, Cond.initialized RX4, Cond.code yX4_thought cX4_thought 5 (some (.object "GritIsIssued$Person")), Cond.fieldLink RX4 25 "GritIsIssued" "trial" "LGritIsIssued$Person;", Cond.fieldLink RX4 89 "GritIsIssued$Person" "has" "I", Cond.methodLink RX4 79 yX1_at, Cond.instanceMethod yX1_at, Cond.selects RX1 yX1_at yX1_at, Cond.initialized RX1, Cond.code yX1_at cX1_at 2 (some (.object "GritIsIssued$Person")), Cond.fieldLink RX1 11 "GritIsIssued$Office" "room" "[LGritIsIssued$Person;", Cond.fieldLink RX1 18 "GritIsIssued$Office" "nobody" "LGritIsIssued$Person;", Cond.methodLink RX4 147 yX2_takeFrom, Cond.instanceMethod yX2_takeFrom, Cond.selects RX2 yX2_takeFrom yX2_takeFrom, Cond.initialized RX2, Cond.code yX2_takeFrom cX2_takeFrom 2 none, Cond.fieldLink RX2 9 "GritIsIssued$Person" "kind" "I", Cond.fieldLink RX2 15 "GritIsIssued$Person" "figure" "I", Cond.fieldLink RX2 18 "GritIsIssued$Person" "has" "I"]
def wsX4_throughMore_r2 : List Cond := [Cond.fieldLink RX2 21 "GritIsIssued$Person" "due" "I", Cond.fieldLink RX2 24 "GritIsIssued$Person" "through" "I", Cond.fieldLink RX2 27 "GritIsIssued$Person" "shorts" "I", Cond.fieldLink RX2 30 "GritIsIssued$Person" "passed" "I", Cond.fieldLink RX2 33 "GritIsIssued$Person" "missed" "I", Cond.methodLink RX4 153 yX2_oneDay, Cond.instanceMethod yX2_oneDay, Cond.selects RX2 yX2_oneDay yX2_oneDay, Cond.code yX2_oneDay cX2_oneDay 3 (some .int), Cond.methodLink RX2 51 Lib.Math.min.name, Cond.static Lib.Math.min.name, Cond.initialized "java/lang/Math", Cond.code Lib.Math.min.name Lib.Math.min.code 2 (some .int), Cond.methodLink RX2 36 yX0_needs, Cond.static yX0_needs, Cond.initialized RX0, Cond.code yX0_needs cX0_needs 4 (some .int), Cond.methodLink RX2 54 yX0_wears, Cond.static yX0_wears, Cond.code yX0_wears cX0_wears 2 (some .int), Cond.methodLink RX2 57 yX0_nextIn, Cond.static yX0_nextIn, Cond.code yX0_nextIn cX0_nextIn 2 (some .int)]
def wsX4_throughMore : List Cond := .code yX4_throughMore cX4_throughMore 4 (some .int) :: ((wsX4_throughMore_r1 ++ wsX4_throughMore_r2) ++ wsX20 ++ wsX40 ++ wsX10)
def wsX4_weigh_r1 : List Cond := [Cond.fieldLink RX4 10 "GritIsIssued" "now" "LGritIsIssued$Office;", Cond.fieldLink RX4 159 "GritIsIssued$Office" "people" "I", Cond.fieldLink RX4 89 "GritIsIssued$Person" "has" "I", Cond.fieldLink RX4 43 "GritIsIssued" "throughBare" "[I", Cond.fieldLink RX4 46 "GritIsIssued" "throughGiven" "[I", Cond.methodLink RX4 79 yX1_at, Cond.instanceMethod yX1_at, Cond.selects RX1 yX1_at yX1_at, Cond.initialized RX1, Cond.code yX1_at cX1_at 2 (some (.object "GritIsIssued$Person")), Cond.fieldLink RX1 11 "GritIsIssued$Office" "room" "[LGritIsIssued$Person;", Cond.fieldLink RX1 18 "GritIsIssued$Office" "nobody" "LGritIsIssued$Person;", Cond.methodLink RX4 104 yX2_lacking, Cond.instanceMethod yX2_lacking, Cond.selects RX2 yX2_lacking yX2_lacking, Cond.initialized RX2, Cond.code yX2_lacking cX2_lacking 1 (some .int), Cond.fieldLink RX2 21 "GritIsIssued$Person" "due" "I", Cond.fieldLink RX2 18 "GritIsIssued$Person" "has" "I", Cond.methodLink RX2 46 Lib.Math.max.name, Cond.static Lib.Math.max.name, Cond.initialized "java/lang/Math", Cond.code Lib.Math.max.name Lib.Math.max.code 2 (some .int), Cond.methodLink RX2 42 yX2_needed]
def wsX4_weigh_r2 : List Cond := [Cond.instanceMethod yX2_needed, Cond.selects RX2 yX2_needed yX2_needed, Cond.code yX2_needed cX2_needed 1 (some .int), Cond.fieldLink RX2 9 "GritIsIssued$Person" "kind" "I", Cond.fieldLink RX2 15 "GritIsIssued$Person" "figure" "I", Cond.methodLink RX2 36 yX0_needs, Cond.static yX0_needs, Cond.initialized RX0, Cond.code yX0_needs cX0_needs 4 (some .int), Cond.methodLink RX4 182 yX4_throughMore, Cond.instanceMethod yX4_throughMore, Cond.selects RX4 yX4_throughMore yX4_throughMore, Cond.initialized RX4, Cond.code yX4_throughMore cX4_throughMore 4 (some .int), Cond.fieldLink RX4 95 "GritIsIssued$Person" "through" "I", Cond.methodLink RX4 130 yX4_thought, Cond.instanceMethod yX4_thought, Cond.selects RX4 yX4_thought yX4_thought, Cond.code yX4_thought cX4_thought 5 (some (.object "GritIsIssued$Person")), Cond.fieldLink RX4 25 "GritIsIssued" "trial" "LGritIsIssued$Person;", Cond.methodLink RX4 147 yX2_takeFrom, Cond.instanceMethod yX2_takeFrom, Cond.selects RX2 yX2_takeFrom yX2_takeFrom, Cond.code yX2_takeFrom cX2_takeFrom 2 none]
def wsX4_weigh_r3 : List Cond := [Cond.fieldLink RX2 24 "GritIsIssued$Person" "through" "I", Cond.fieldLink RX2 27 "GritIsIssued$Person" "shorts" "I", Cond.fieldLink RX2 30 "GritIsIssued$Person" "passed" "I", Cond.fieldLink RX2 33 "GritIsIssued$Person" "missed" "I", Cond.methodLink RX4 153 yX2_oneDay, Cond.instanceMethod yX2_oneDay, Cond.selects RX2 yX2_oneDay yX2_oneDay, Cond.code yX2_oneDay cX2_oneDay 3 (some .int), Cond.methodLink RX2 51 Lib.Math.min.name, Cond.static Lib.Math.min.name, Cond.code Lib.Math.min.name Lib.Math.min.code 2 (some .int), Cond.methodLink RX2 54 yX0_wears, Cond.static yX0_wears, Cond.code yX0_wears cX0_wears 2 (some .int), Cond.methodLink RX2 57 yX0_nextIn, Cond.static yX0_nextIn, Cond.code yX0_nextIn cX0_nextIn 2 (some .int)]
def wsX4_weigh : List Cond := .code yX4_weigh cX4_weigh 5 none :: ((wsX4_weigh_r1 ++ (wsX4_weigh_r2 ++ wsX4_weigh_r3)) ++ wsX40 ++ wsX10 ++ wsX20)
def wsX4_weighed : List Cond := .code yX4_weighed cX4_weighed 3 (some .int) :: ([.fieldLink RX4 46 "GritIsIssued" "throughGiven" "[I", .fieldLink RX4 43 "GritIsIssued" "throughBare" "[I"] ++ wsX40)
def wsX4_throughOf_r1 : List Cond := [Cond.fieldLink RX4 10 "GritIsIssued" "now" "LGritIsIssued$Office;", Cond.fieldLink RX4 111 "GritIsIssued$Office" "store" "I", Cond.fieldLink RX4 159 "GritIsIssued$Office" "people" "I", Cond.methodLink RX4 79 yX1_at, Cond.instanceMethod yX1_at, Cond.selects RX1 yX1_at yX1_at, Cond.initialized RX1, Cond.code yX1_at cX1_at 2 (some (.object "GritIsIssued$Person")), Cond.fieldLink RX1 11 "GritIsIssued$Office" "room" "[LGritIsIssued$Person;", Cond.fieldLink RX1 18 "GritIsIssued$Office" "nobody" "LGritIsIssued$Person;", Cond.methodLink RX4 104 yX2_lacking, Cond.instanceMethod yX2_lacking, Cond.selects RX2 yX2_lacking yX2_lacking, Cond.initialized RX2, Cond.code yX2_lacking cX2_lacking 1 (some .int), Cond.fieldLink RX2 21 "GritIsIssued$Person" "due" "I", Cond.fieldLink RX2 18 "GritIsIssued$Person" "has" "I", Cond.methodLink RX2 46 Lib.Math.max.name, Cond.static Lib.Math.max.name, Cond.initialized "java/lang/Math", Cond.code Lib.Math.max.name Lib.Math.max.code 2 (some .int), Cond.methodLink RX2 42 yX2_needed, Cond.instanceMethod yX2_needed, Cond.selects RX2 yX2_needed yX2_needed]
def wsX4_throughOf_r2 : List Cond := [Cond.code yX2_needed cX2_needed 1 (some .int), Cond.fieldLink RX2 9 "GritIsIssued$Person" "kind" "I", Cond.fieldLink RX2 15 "GritIsIssued$Person" "figure" "I", Cond.methodLink RX2 36 yX0_needs, Cond.static yX0_needs, Cond.initialized RX0, Cond.code yX0_needs cX0_needs 4 (some .int), Cond.methodLink RX4 267 yX4_weighed, Cond.instanceMethod yX4_weighed, Cond.selects RX4 yX4_weighed yX4_weighed, Cond.initialized RX4, Cond.code yX4_weighed cX4_weighed 3 (some .int), Cond.fieldLink RX4 46 "GritIsIssued" "throughGiven" "[I", Cond.fieldLink RX4 43 "GritIsIssued" "throughBare" "[I"]
def wsX4_throughOf : List Cond := .code yX4_throughOf cX4_throughOf 7 (some .int) :: ((wsX4_throughOf_r1 ++ wsX4_throughOf_r2) ++ wsX40 ++ wsX10 ++ wsX20)
def wsX4_best_r1 : List Cond := [Cond.fieldLink RX4 10 "GritIsIssued" "now" "LGritIsIssued$Office;", Cond.fieldLink RX4 159 "GritIsIssued$Office" "people" "I", Cond.methodLink RX4 49 yX4_outside, Cond.static yX4_outside, Cond.initialized RX4, Cond.code yX4_outside cX4_outside 3 (some .int), Cond.methodLink RX4 72 yX4_other, Cond.static yX4_other, Cond.code yX4_other cX4_other 2 (some .int), Cond.methodLink RX4 76 yX4_firstOf, Cond.static yX4_firstOf, Cond.code yX4_firstOf cX4_firstOf 3 (some .int), Cond.methodLink RX4 57 yX4_refused, Cond.instanceMethod yX4_refused, Cond.selects RX4 yX4_refused yX4_refused, Cond.code yX4_refused cX4_refused 3 (some .int), Cond.fieldLink RX4 40 "GritIsIssued" "refusals" "[I", Cond.methodLink RX4 173 yX4_weigh, Cond.instanceMethod yX4_weigh, Cond.selects RX4 yX4_weigh yX4_weigh, Cond.code yX4_weigh cX4_weigh 5 none, Cond.fieldLink RX4 89 "GritIsIssued$Person" "has" "I", Cond.fieldLink RX4 43 "GritIsIssued" "throughBare" "[I", Cond.fieldLink RX4 46 "GritIsIssued" "throughGiven" "[I"]
def wsX4_best_r2 : List Cond := [Cond.methodLink RX4 79 yX1_at, Cond.instanceMethod yX1_at, Cond.selects RX1 yX1_at yX1_at, Cond.initialized RX1, Cond.code yX1_at cX1_at 2 (some (.object "GritIsIssued$Person")), Cond.fieldLink RX1 11 "GritIsIssued$Office" "room" "[LGritIsIssued$Person;", Cond.fieldLink RX1 18 "GritIsIssued$Office" "nobody" "LGritIsIssued$Person;", Cond.methodLink RX4 104 yX2_lacking, Cond.instanceMethod yX2_lacking, Cond.selects RX2 yX2_lacking yX2_lacking, Cond.initialized RX2, Cond.code yX2_lacking cX2_lacking 1 (some .int), Cond.fieldLink RX2 21 "GritIsIssued$Person" "due" "I", Cond.fieldLink RX2 18 "GritIsIssued$Person" "has" "I", Cond.methodLink RX2 46 Lib.Math.max.name, Cond.static Lib.Math.max.name, Cond.initialized "java/lang/Math", Cond.code Lib.Math.max.name Lib.Math.max.code 2 (some .int), Cond.methodLink RX2 42 yX2_needed, Cond.instanceMethod yX2_needed, Cond.selects RX2 yX2_needed yX2_needed, Cond.code yX2_needed cX2_needed 1 (some .int), Cond.fieldLink RX2 9 "GritIsIssued$Person" "kind" "I", Cond.fieldLink RX2 15 "GritIsIssued$Person" "figure" "I"]
def wsX4_best_r3 : List Cond := [Cond.methodLink RX2 36 yX0_needs, Cond.static yX0_needs, Cond.initialized RX0, Cond.code yX0_needs cX0_needs 4 (some .int), Cond.methodLink RX4 182 yX4_throughMore, Cond.instanceMethod yX4_throughMore, Cond.selects RX4 yX4_throughMore yX4_throughMore, Cond.code yX4_throughMore cX4_throughMore 4 (some .int), Cond.fieldLink RX4 95 "GritIsIssued$Person" "through" "I", Cond.methodLink RX4 130 yX4_thought, Cond.instanceMethod yX4_thought, Cond.selects RX4 yX4_thought yX4_thought, Cond.code yX4_thought cX4_thought 5 (some (.object "GritIsIssued$Person")), Cond.fieldLink RX4 25 "GritIsIssued" "trial" "LGritIsIssued$Person;", Cond.methodLink RX4 147 yX2_takeFrom, Cond.instanceMethod yX2_takeFrom, Cond.selects RX2 yX2_takeFrom yX2_takeFrom, Cond.code yX2_takeFrom cX2_takeFrom 2 none, Cond.fieldLink RX2 24 "GritIsIssued$Person" "through" "I", Cond.fieldLink RX2 27 "GritIsIssued$Person" "shorts" "I", Cond.fieldLink RX2 30 "GritIsIssued$Person" "passed" "I", Cond.fieldLink RX2 33 "GritIsIssued$Person" "missed" "I", Cond.methodLink RX4 153 yX2_oneDay, Cond.instanceMethod yX2_oneDay]
def wsX4_best_r4 : List Cond := [Cond.selects RX2 yX2_oneDay yX2_oneDay, Cond.code yX2_oneDay cX2_oneDay 3 (some .int), Cond.methodLink RX2 51 Lib.Math.min.name, Cond.static Lib.Math.min.name, Cond.code Lib.Math.min.name Lib.Math.min.code 2 (some .int), Cond.methodLink RX2 54 yX0_wears, Cond.static yX0_wears, Cond.code yX0_wears cX0_wears 2 (some .int), Cond.methodLink RX2 57 yX0_nextIn, Cond.static yX0_nextIn, Cond.code yX0_nextIn cX0_nextIn 2 (some .int), Cond.methodLink RX4 176 yX4_throughOf, Cond.instanceMethod yX4_throughOf, Cond.selects RX4 yX4_throughOf yX4_throughOf, Cond.code yX4_throughOf cX4_throughOf 7 (some .int), Cond.fieldLink RX4 111 "GritIsIssued$Office" "store" "I", Cond.methodLink RX4 267 yX4_weighed, Cond.instanceMethod yX4_weighed, Cond.selects RX4 yX4_weighed yX4_weighed, Cond.code yX4_weighed cX4_weighed 3 (some .int)]
def wsX4_best : List Cond := .code yX4_best cX4_best 8 (some .int) :: ((wsX4_best_r1 ++ (wsX4_best_r2 ++ (wsX4_best_r3 ++ wsX4_best_r4))) ++ wsX40 ++ wsX10 ++ wsX20)
def wsX4_run_r1 : List Cond := [Cond.fieldLink RX4 16 "GritIsIssued" "mind" "LGritIsIssued$Office;", Cond.fieldLink RX4 10 "GritIsIssued" "now" "LGritIsIssued$Office;", Cond.methodLink RX4 72 yX4_other, Cond.static yX4_other, Cond.initialized RX4, Cond.code yX4_other cX4_other 2 (some .int), Cond.methodLink RX4 57 yX4_refused, Cond.instanceMethod yX4_refused, Cond.selects RX4 yX4_refused yX4_refused, Cond.code yX4_refused cX4_refused 3 (some .int), Cond.fieldLink RX4 40 "GritIsIssued" "refusals" "[I", Cond.methodLink RX4 134 yX1_takeFrom, Cond.instanceMethod yX1_takeFrom, Cond.selects RX1 yX1_takeFrom yX1_takeFrom, Cond.initialized RX1, Cond.code yX1_takeFrom cX1_takeFrom 3 none, Cond.fieldLink RX1 22 "GritIsIssued$Office" "people" "I", Cond.fieldLink RX1 26 "GritIsIssued$Office" "store" "I", Cond.fieldLink RX1 29 "GritIsIssued$Office" "worn" "I", Cond.fieldLink RX1 32 "GritIsIssued$Office" "day" "I", Cond.methodLink RX1 35 yX1_at, Cond.instanceMethod yX1_at, Cond.selects RX1 yX1_at yX1_at, Cond.code yX1_at cX1_at 2 (some (.object "GritIsIssued$Person"))]
def wsX4_run_r2 : List Cond := [Cond.fieldLink RX1 11 "GritIsIssued$Office" "room" "[LGritIsIssued$Person;", Cond.fieldLink RX1 18 "GritIsIssued$Office" "nobody" "LGritIsIssued$Person;", Cond.methodLink RX1 39 yX2_takeFrom, Cond.instanceMethod yX2_takeFrom, Cond.selects RX2 yX2_takeFrom yX2_takeFrom, Cond.initialized RX2, Cond.code yX2_takeFrom cX2_takeFrom 2 none, Cond.fieldLink RX2 9 "GritIsIssued$Person" "kind" "I", Cond.fieldLink RX2 15 "GritIsIssued$Person" "figure" "I", Cond.fieldLink RX2 18 "GritIsIssued$Person" "has" "I", Cond.fieldLink RX2 21 "GritIsIssued$Person" "due" "I", Cond.fieldLink RX2 24 "GritIsIssued$Person" "through" "I", Cond.fieldLink RX2 27 "GritIsIssued$Person" "shorts" "I", Cond.fieldLink RX2 30 "GritIsIssued$Person" "passed" "I", Cond.fieldLink RX2 33 "GritIsIssued$Person" "missed" "I", Cond.methodLink RX4 179 yX1_issueAhead, Cond.instanceMethod yX1_issueAhead, Cond.selects RX1 yX1_issueAhead yX1_issueAhead, Cond.code yX1_issueAhead cX1_issueAhead 3 (some .int), Cond.fieldLink RX1 49 "GritIsIssued$Person" "due" "I", Cond.methodLink RX1 76 yX2_lacking, Cond.instanceMethod yX2_lacking, Cond.selects RX2 yX2_lacking yX2_lacking, Cond.code yX2_lacking cX2_lacking 1 (some .int)]
def wsX4_run_r3 : List Cond := [Cond.methodLink RX2 46 Lib.Math.max.name, Cond.static Lib.Math.max.name, Cond.initialized "java/lang/Math", Cond.code Lib.Math.max.name Lib.Math.max.code 2 (some .int), Cond.methodLink RX2 42 yX2_needed, Cond.instanceMethod yX2_needed, Cond.selects RX2 yX2_needed yX2_needed, Cond.code yX2_needed cX2_needed 1 (some .int), Cond.methodLink RX2 36 yX0_needs, Cond.static yX0_needs, Cond.initialized RX0, Cond.code yX0_needs cX0_needs 4 (some .int), Cond.methodLink RX1 79 yX1_issue, Cond.instanceMethod yX1_issue, Cond.selects RX1 yX1_issue yX1_issue, Cond.code yX1_issue cX1_issue 3 (some .boolean), Cond.fieldLink RX1 56 "GritIsIssued$Person" "has" "I", Cond.methodLink RX1 52 yX1_knows, Cond.instanceMethod yX1_knows, Cond.selects RX1 yX1_knows yX1_knows, Cond.code yX1_knows cX1_knows 2 (some .boolean), Cond.methodLink RX4 127 yX1_daysGoBy, Cond.instanceMethod yX1_daysGoBy, Cond.selects RX1 yX1_daysGoBy yX1_daysGoBy]
def wsX4_run_r4 : List Cond := [Cond.code yX1_daysGoBy cX1_daysGoBy 4 none, Cond.methodLink RX1 72 yX2_oneDay, Cond.instanceMethod yX2_oneDay, Cond.selects RX2 yX2_oneDay yX2_oneDay, Cond.code yX2_oneDay cX2_oneDay 3 (some .int), Cond.methodLink RX2 51 Lib.Math.min.name, Cond.static Lib.Math.min.name, Cond.code Lib.Math.min.name Lib.Math.min.code 2 (some .int), Cond.methodLink RX2 54 yX0_wears, Cond.static yX0_wears, Cond.code yX0_wears cX0_wears 2 (some .int), Cond.methodLink RX2 57 yX0_nextIn, Cond.static yX0_nextIn, Cond.code yX0_nextIn cX0_nextIn 2 (some .int), Cond.methodLink RX1 65 yX1_wear, Cond.instanceMethod yX1_wear, Cond.selects RX1 yX1_wear yX1_wear, Cond.code yX1_wear cX1_wear 2 none, Cond.methodLink RX1 59 Lib.Math.min.name]
def wsX4_run : List Cond := .code yX4_run cX4_run 5 (some .int) :: ((wsX4_run_r1 ++ (wsX4_run_r2 ++ (wsX4_run_r3 ++ wsX4_run_r4))) ++ wsX40 ++ wsX10 ++ wsX20)
def wsX4_stock_r1 : List Cond := [Cond.fieldLink RX4 16 "GritIsIssued" "mind" "LGritIsIssued$Office;", Cond.fieldLink RX4 10 "GritIsIssued" "now" "LGritIsIssued$Office;", Cond.fieldLink RX4 111 "GritIsIssued$Office" "store" "I", Cond.methodLink RX4 49 yX4_outside, Cond.static yX4_outside, Cond.initialized RX4, Cond.code yX4_outside cX4_outside 3 (some .int), Cond.methodLink RX4 57 yX4_refused, Cond.instanceMethod yX4_refused, Cond.selects RX4 yX4_refused yX4_refused, Cond.code yX4_refused cX4_refused 3 (some .int), Cond.fieldLink RX4 40 "GritIsIssued" "refusals" "[I", Cond.methodLink RX4 134 yX1_takeFrom, Cond.instanceMethod yX1_takeFrom, Cond.selects RX1 yX1_takeFrom yX1_takeFrom, Cond.initialized RX1, Cond.code yX1_takeFrom cX1_takeFrom 3 none, Cond.fieldLink RX1 22 "GritIsIssued$Office" "people" "I", Cond.fieldLink RX1 26 "GritIsIssued$Office" "store" "I", Cond.fieldLink RX1 29 "GritIsIssued$Office" "worn" "I", Cond.fieldLink RX1 32 "GritIsIssued$Office" "day" "I", Cond.methodLink RX1 35 yX1_at, Cond.instanceMethod yX1_at, Cond.selects RX1 yX1_at yX1_at]
def wsX4_stock_r2 : List Cond := [Cond.code yX1_at cX1_at 2 (some (.object "GritIsIssued$Person")), Cond.fieldLink RX1 11 "GritIsIssued$Office" "room" "[LGritIsIssued$Person;", Cond.fieldLink RX1 18 "GritIsIssued$Office" "nobody" "LGritIsIssued$Person;", Cond.methodLink RX1 39 yX2_takeFrom, Cond.instanceMethod yX2_takeFrom, Cond.selects RX2 yX2_takeFrom yX2_takeFrom, Cond.initialized RX2, Cond.code yX2_takeFrom cX2_takeFrom 2 none, Cond.fieldLink RX2 9 "GritIsIssued$Person" "kind" "I", Cond.fieldLink RX2 15 "GritIsIssued$Person" "figure" "I", Cond.fieldLink RX2 18 "GritIsIssued$Person" "has" "I", Cond.fieldLink RX2 21 "GritIsIssued$Person" "due" "I", Cond.fieldLink RX2 24 "GritIsIssued$Person" "through" "I", Cond.fieldLink RX2 27 "GritIsIssued$Person" "shorts" "I", Cond.fieldLink RX2 30 "GritIsIssued$Person" "passed" "I", Cond.fieldLink RX2 33 "GritIsIssued$Person" "missed" "I", Cond.methodLink RX4 179 yX1_issueAhead, Cond.instanceMethod yX1_issueAhead, Cond.selects RX1 yX1_issueAhead yX1_issueAhead, Cond.code yX1_issueAhead cX1_issueAhead 3 (some .int), Cond.fieldLink RX1 49 "GritIsIssued$Person" "due" "I", Cond.methodLink RX1 76 yX2_lacking, Cond.instanceMethod yX2_lacking, Cond.selects RX2 yX2_lacking yX2_lacking]
def wsX4_stock_r3 : List Cond := [Cond.code yX2_lacking cX2_lacking 1 (some .int), Cond.methodLink RX2 46 Lib.Math.max.name, Cond.static Lib.Math.max.name, Cond.initialized "java/lang/Math", Cond.code Lib.Math.max.name Lib.Math.max.code 2 (some .int), Cond.methodLink RX2 42 yX2_needed, Cond.instanceMethod yX2_needed, Cond.selects RX2 yX2_needed yX2_needed, Cond.code yX2_needed cX2_needed 1 (some .int), Cond.methodLink RX2 36 yX0_needs, Cond.static yX0_needs, Cond.initialized RX0, Cond.code yX0_needs cX0_needs 4 (some .int), Cond.methodLink RX1 79 yX1_issue, Cond.instanceMethod yX1_issue, Cond.selects RX1 yX1_issue yX1_issue, Cond.code yX1_issue cX1_issue 3 (some .boolean), Cond.fieldLink RX1 56 "GritIsIssued$Person" "has" "I", Cond.methodLink RX1 52 yX1_knows, Cond.instanceMethod yX1_knows, Cond.selects RX1 yX1_knows yX1_knows, Cond.code yX1_knows cX1_knows 2 (some .boolean), Cond.methodLink RX4 127 yX1_daysGoBy, Cond.instanceMethod yX1_daysGoBy]
def wsX4_stock_r4 : List Cond := [Cond.selects RX1 yX1_daysGoBy yX1_daysGoBy, Cond.code yX1_daysGoBy cX1_daysGoBy 4 none, Cond.methodLink RX1 72 yX2_oneDay, Cond.instanceMethod yX2_oneDay, Cond.selects RX2 yX2_oneDay yX2_oneDay, Cond.code yX2_oneDay cX2_oneDay 3 (some .int), Cond.methodLink RX2 51 Lib.Math.min.name, Cond.static Lib.Math.min.name, Cond.code Lib.Math.min.name Lib.Math.min.code 2 (some .int), Cond.methodLink RX2 54 yX0_wears, Cond.static yX0_wears, Cond.code yX0_wears cX0_wears 2 (some .int), Cond.methodLink RX2 57 yX0_nextIn, Cond.static yX0_nextIn, Cond.code yX0_nextIn cX0_nextIn 2 (some .int), Cond.methodLink RX1 65 yX1_wear, Cond.instanceMethod yX1_wear, Cond.selects RX1 yX1_wear yX1_wear, Cond.code yX1_wear cX1_wear 2 none, Cond.methodLink RX1 59 Lib.Math.min.name]
def wsX4_stock : List Cond := .code yX4_stock cX4_stock 4 (some .int) :: ((wsX4_stock_r1 ++ (wsX4_stock_r2 ++ (wsX4_stock_r3 ++ wsX4_stock_r4))) ++ wsX40 ++ wsX10 ++ wsX20)
def wsX4_borrow_r1 : List Cond := [Cond.fieldLink RX4 10 "GritIsIssued" "now" "LGritIsIssued$Office;", Cond.fieldLink RX4 89 "GritIsIssued$Person" "has" "I", Cond.fieldLink RX4 159 "GritIsIssued$Office" "people" "I", Cond.methodLink RX4 69 yX4_unknown, Cond.instanceMethod yX4_unknown, Cond.selects RX4 yX4_unknown yX4_unknown, Cond.initialized RX4, Cond.code yX4_unknown cX4_unknown 2 (some .int), Cond.methodLink RX4 226 yX1_knows, Cond.instanceMethod yX1_knows, Cond.selects RX1 yX1_knows yX1_knows, Cond.initialized RX1, Cond.code yX1_knows cX1_knows 2 (some .boolean), Cond.fieldLink RX1 22 "GritIsIssued$Office" "people" "I", Cond.methodLink RX4 49 yX4_outside, Cond.static yX4_outside, Cond.code yX4_outside cX4_outside 3 (some .int), Cond.methodLink RX4 76 yX4_firstOf, Cond.static yX4_firstOf, Cond.code yX4_firstOf cX4_firstOf 3 (some .int), Cond.methodLink RX4 57 yX4_refused, Cond.instanceMethod yX4_refused, Cond.selects RX4 yX4_refused yX4_refused, Cond.code yX4_refused cX4_refused 3 (some .int)]
def wsX4_borrow_r2 : List Cond := [Cond.fieldLink RX4 40 "GritIsIssued" "refusals" "[I", Cond.methodLink RX4 79 yX1_at, Cond.instanceMethod yX1_at, Cond.selects RX1 yX1_at yX1_at, Cond.code yX1_at cX1_at 2 (some (.object "GritIsIssued$Person")), Cond.fieldLink RX1 11 "GritIsIssued$Office" "room" "[LGritIsIssued$Person;", Cond.fieldLink RX1 18 "GritIsIssued$Office" "nobody" "LGritIsIssued$Person;", Cond.methodLink RX4 104 yX2_lacking, Cond.instanceMethod yX2_lacking, Cond.selects RX2 yX2_lacking yX2_lacking, Cond.initialized RX2, Cond.code yX2_lacking cX2_lacking 1 (some .int), Cond.fieldLink RX2 21 "GritIsIssued$Person" "due" "I", Cond.fieldLink RX2 18 "GritIsIssued$Person" "has" "I", Cond.methodLink RX2 46 Lib.Math.max.name, Cond.static Lib.Math.max.name, Cond.initialized "java/lang/Math", Cond.code Lib.Math.max.name Lib.Math.max.code 2 (some .int), Cond.methodLink RX2 42 yX2_needed, Cond.instanceMethod yX2_needed, Cond.selects RX2 yX2_needed yX2_needed, Cond.code yX2_needed cX2_needed 1 (some .int), Cond.fieldLink RX2 9 "GritIsIssued$Person" "kind" "I", Cond.fieldLink RX2 15 "GritIsIssued$Person" "figure" "I"]
def wsX4_borrow_r3 : List Cond := [Cond.methodLink RX2 36 yX0_needs, Cond.static yX0_needs, Cond.initialized RX0, Cond.code yX0_needs cX0_needs 4 (some .int), Cond.methodLink RX4 182 yX4_throughMore, Cond.instanceMethod yX4_throughMore, Cond.selects RX4 yX4_throughMore yX4_throughMore, Cond.code yX4_throughMore cX4_throughMore 4 (some .int), Cond.fieldLink RX4 95 "GritIsIssued$Person" "through" "I", Cond.methodLink RX4 130 yX4_thought, Cond.instanceMethod yX4_thought, Cond.selects RX4 yX4_thought yX4_thought, Cond.code yX4_thought cX4_thought 5 (some (.object "GritIsIssued$Person")), Cond.fieldLink RX4 25 "GritIsIssued" "trial" "LGritIsIssued$Person;", Cond.methodLink RX4 147 yX2_takeFrom, Cond.instanceMethod yX2_takeFrom, Cond.selects RX2 yX2_takeFrom yX2_takeFrom, Cond.code yX2_takeFrom cX2_takeFrom 2 none, Cond.fieldLink RX2 24 "GritIsIssued$Person" "through" "I", Cond.fieldLink RX2 27 "GritIsIssued$Person" "shorts" "I", Cond.fieldLink RX2 30 "GritIsIssued$Person" "passed" "I", Cond.fieldLink RX2 33 "GritIsIssued$Person" "missed" "I", Cond.methodLink RX4 153 yX2_oneDay, Cond.instanceMethod yX2_oneDay]
def wsX4_borrow_r4 : List Cond := [Cond.selects RX2 yX2_oneDay yX2_oneDay, Cond.code yX2_oneDay cX2_oneDay 3 (some .int), Cond.methodLink RX2 51 Lib.Math.min.name, Cond.static Lib.Math.min.name, Cond.code Lib.Math.min.name Lib.Math.min.code 2 (some .int), Cond.methodLink RX2 54 yX0_wears, Cond.static yX0_wears, Cond.code yX0_wears cX0_wears 2 (some .int), Cond.methodLink RX2 57 yX0_nextIn, Cond.static yX0_nextIn, Cond.code yX0_nextIn cX0_nextIn 2 (some .int)]
def wsX4_borrow : List Cond := .code yX4_borrow cX4_borrow 12 (some .int) :: ((wsX4_borrow_r1 ++ (wsX4_borrow_r2 ++ (wsX4_borrow_r3 ++ wsX4_borrow_r4))) ++ wsX40 ++ wsX20 ++ wsX10)
def wsX4_shortMore_r1 : List Cond := [Cond.fieldLink RX4 98 "GritIsIssued$Person" "shorts" "I", Cond.fieldLink RX4 10 "GritIsIssued" "now" "LGritIsIssued$Office;", Cond.methodLink RX4 130 yX4_thought, Cond.instanceMethod yX4_thought, Cond.selects RX4 yX4_thought yX4_thought, Cond.initialized RX4, Cond.code yX4_thought cX4_thought 5 (some (.object "GritIsIssued$Person")), Cond.fieldLink RX4 25 "GritIsIssued" "trial" "LGritIsIssued$Person;", Cond.fieldLink RX4 89 "GritIsIssued$Person" "has" "I", Cond.methodLink RX4 79 yX1_at, Cond.instanceMethod yX1_at, Cond.selects RX1 yX1_at yX1_at, Cond.initialized RX1, Cond.code yX1_at cX1_at 2 (some (.object "GritIsIssued$Person")), Cond.fieldLink RX1 11 "GritIsIssued$Office" "room" "[LGritIsIssued$Person;", Cond.fieldLink RX1 18 "GritIsIssued$Office" "nobody" "LGritIsIssued$Person;", Cond.methodLink RX4 147 yX2_takeFrom, Cond.instanceMethod yX2_takeFrom, Cond.selects RX2 yX2_takeFrom yX2_takeFrom, Cond.initialized RX2, Cond.code yX2_takeFrom cX2_takeFrom 2 none, Cond.fieldLink RX2 9 "GritIsIssued$Person" "kind" "I", Cond.fieldLink RX2 15 "GritIsIssued$Person" "figure" "I", Cond.fieldLink RX2 18 "GritIsIssued$Person" "has" "I"]
def wsX4_shortMore_r2 : List Cond := [Cond.fieldLink RX2 21 "GritIsIssued$Person" "due" "I", Cond.fieldLink RX2 24 "GritIsIssued$Person" "through" "I", Cond.fieldLink RX2 27 "GritIsIssued$Person" "shorts" "I", Cond.fieldLink RX2 30 "GritIsIssued$Person" "passed" "I", Cond.fieldLink RX2 33 "GritIsIssued$Person" "missed" "I", Cond.methodLink RX4 153 yX2_oneDay, Cond.instanceMethod yX2_oneDay, Cond.selects RX2 yX2_oneDay yX2_oneDay, Cond.code yX2_oneDay cX2_oneDay 3 (some .int), Cond.methodLink RX2 51 Lib.Math.min.name, Cond.static Lib.Math.min.name, Cond.initialized "java/lang/Math", Cond.code Lib.Math.min.name Lib.Math.min.code 2 (some .int), Cond.methodLink RX2 36 yX0_needs, Cond.static yX0_needs, Cond.initialized RX0, Cond.code yX0_needs cX0_needs 4 (some .int), Cond.methodLink RX2 54 yX0_wears, Cond.static yX0_wears, Cond.code yX0_wears cX0_wears 2 (some .int), Cond.methodLink RX2 57 yX0_nextIn, Cond.static yX0_nextIn, Cond.code yX0_nextIn cX0_nextIn 2 (some .int)]
def wsX4_shortMore : List Cond := .code yX4_shortMore cX4_shortMore 4 (some .int) :: ((wsX4_shortMore_r1 ++ wsX4_shortMore_r2) ++ wsX20 ++ wsX40 ++ wsX10)
def wsX4_sweep_r1 : List Cond := [Cond.fieldLink RX4 10 "GritIsIssued" "now" "LGritIsIssued$Office;", Cond.fieldLink RX4 159 "GritIsIssued$Office" "people" "I", Cond.fieldLink RX4 89 "GritIsIssued$Person" "has" "I", Cond.methodLink RX4 49 yX4_outside, Cond.static yX4_outside, Cond.initialized RX4, Cond.code yX4_outside cX4_outside 3 (some .int), Cond.methodLink RX4 72 yX4_other, Cond.static yX4_other, Cond.code yX4_other cX4_other 2 (some .int), Cond.methodLink RX4 76 yX4_firstOf, Cond.static yX4_firstOf, Cond.code yX4_firstOf cX4_firstOf 3 (some .int), Cond.methodLink RX4 57 yX4_refused, Cond.instanceMethod yX4_refused, Cond.selects RX4 yX4_refused yX4_refused, Cond.code yX4_refused cX4_refused 3 (some .int), Cond.fieldLink RX4 40 "GritIsIssued" "refusals" "[I", Cond.methodLink RX4 79 yX1_at, Cond.instanceMethod yX1_at, Cond.selects RX1 yX1_at yX1_at, Cond.initialized RX1, Cond.code yX1_at cX1_at 2 (some (.object "GritIsIssued$Person")), Cond.fieldLink RX1 11 "GritIsIssued$Office" "room" "[LGritIsIssued$Person;"]
def wsX4_sweep_r2 : List Cond := [Cond.fieldLink RX1 18 "GritIsIssued$Office" "nobody" "LGritIsIssued$Person;", Cond.methodLink RX4 185 yX4_shortMore, Cond.instanceMethod yX4_shortMore, Cond.selects RX4 yX4_shortMore yX4_shortMore, Cond.code yX4_shortMore cX4_shortMore 4 (some .int), Cond.fieldLink RX4 98 "GritIsIssued$Person" "shorts" "I", Cond.methodLink RX4 130 yX4_thought, Cond.instanceMethod yX4_thought, Cond.selects RX4 yX4_thought yX4_thought, Cond.code yX4_thought cX4_thought 5 (some (.object "GritIsIssued$Person")), Cond.fieldLink RX4 25 "GritIsIssued" "trial" "LGritIsIssued$Person;", Cond.methodLink RX4 147 yX2_takeFrom, Cond.instanceMethod yX2_takeFrom, Cond.selects RX2 yX2_takeFrom yX2_takeFrom, Cond.initialized RX2, Cond.code yX2_takeFrom cX2_takeFrom 2 none, Cond.fieldLink RX2 9 "GritIsIssued$Person" "kind" "I", Cond.fieldLink RX2 15 "GritIsIssued$Person" "figure" "I", Cond.fieldLink RX2 18 "GritIsIssued$Person" "has" "I", Cond.fieldLink RX2 21 "GritIsIssued$Person" "due" "I", Cond.fieldLink RX2 24 "GritIsIssued$Person" "through" "I", Cond.fieldLink RX2 27 "GritIsIssued$Person" "shorts" "I", Cond.fieldLink RX2 30 "GritIsIssued$Person" "passed" "I", Cond.fieldLink RX2 33 "GritIsIssued$Person" "missed" "I"]
def wsX4_sweep_r3 : List Cond := [Cond.methodLink RX4 153 yX2_oneDay, Cond.instanceMethod yX2_oneDay, Cond.selects RX2 yX2_oneDay yX2_oneDay, Cond.code yX2_oneDay cX2_oneDay 3 (some .int), Cond.methodLink RX2 51 Lib.Math.min.name, Cond.static Lib.Math.min.name, Cond.initialized "java/lang/Math", Cond.code Lib.Math.min.name Lib.Math.min.code 2 (some .int), Cond.methodLink RX2 36 yX0_needs, Cond.static yX0_needs, Cond.initialized RX0, Cond.code yX0_needs cX0_needs 4 (some .int), Cond.methodLink RX2 54 yX0_wears, Cond.static yX0_wears, Cond.code yX0_wears cX0_wears 2 (some .int), Cond.methodLink RX2 57 yX0_nextIn, Cond.static yX0_nextIn, Cond.code yX0_nextIn cX0_nextIn 2 (some .int)]
def wsX4_sweep : List Cond := .code yX4_sweep cX4_sweep 9 (some .int) :: ((wsX4_sweep_r1 ++ (wsX4_sweep_r2 ++ wsX4_sweep_r3)) ++ wsX40 ++ wsX10 ++ wsX20)
def wsX4_grain_r1 : List Cond := [Cond.fieldLink RX4 10 "GritIsIssued" "now" "LGritIsIssued$Office;", Cond.fieldLink RX4 159 "GritIsIssued$Office" "people" "I", Cond.fieldLink RX4 89 "GritIsIssued$Person" "has" "I", Cond.methodLink RX4 49 yX4_outside, Cond.static yX4_outside, Cond.initialized RX4, Cond.code yX4_outside cX4_outside 3 (some .int), Cond.methodLink RX4 57 yX4_refused, Cond.instanceMethod yX4_refused, Cond.selects RX4 yX4_refused yX4_refused, Cond.code yX4_refused cX4_refused 3 (some .int), Cond.fieldLink RX4 40 "GritIsIssued" "refusals" "[I", Cond.methodLink RX4 79 yX1_at, Cond.instanceMethod yX1_at, Cond.selects RX1 yX1_at yX1_at, Cond.initialized RX1, Cond.code yX1_at cX1_at 2 (some (.object "GritIsIssued$Person")), Cond.fieldLink RX1 11 "GritIsIssued$Office" "room" "[LGritIsIssued$Person;", Cond.fieldLink RX1 18 "GritIsIssued$Office" "nobody" "LGritIsIssued$Person;", Cond.methodLink RX4 182 yX4_throughMore, Cond.instanceMethod yX4_throughMore, Cond.selects RX4 yX4_throughMore yX4_throughMore, Cond.code yX4_throughMore cX4_throughMore 4 (some .int), Cond.fieldLink RX4 95 "GritIsIssued$Person" "through" "I"]
def wsX4_grain_r2 : List Cond := [Cond.methodLink RX4 130 yX4_thought, Cond.instanceMethod yX4_thought, Cond.selects RX4 yX4_thought yX4_thought, Cond.code yX4_thought cX4_thought 5 (some (.object "GritIsIssued$Person")), Cond.fieldLink RX4 25 "GritIsIssued" "trial" "LGritIsIssued$Person;", Cond.methodLink RX4 147 yX2_takeFrom, Cond.instanceMethod yX2_takeFrom, Cond.selects RX2 yX2_takeFrom yX2_takeFrom, Cond.initialized RX2, Cond.code yX2_takeFrom cX2_takeFrom 2 none, Cond.fieldLink RX2 9 "GritIsIssued$Person" "kind" "I", Cond.fieldLink RX2 15 "GritIsIssued$Person" "figure" "I", Cond.fieldLink RX2 18 "GritIsIssued$Person" "has" "I", Cond.fieldLink RX2 21 "GritIsIssued$Person" "due" "I", Cond.fieldLink RX2 24 "GritIsIssued$Person" "through" "I", Cond.fieldLink RX2 27 "GritIsIssued$Person" "shorts" "I", Cond.fieldLink RX2 30 "GritIsIssued$Person" "passed" "I", Cond.fieldLink RX2 33 "GritIsIssued$Person" "missed" "I", Cond.methodLink RX4 153 yX2_oneDay, Cond.instanceMethod yX2_oneDay, Cond.selects RX2 yX2_oneDay yX2_oneDay, Cond.code yX2_oneDay cX2_oneDay 3 (some .int), Cond.methodLink RX2 51 Lib.Math.min.name, Cond.static Lib.Math.min.name]
def wsX4_grain_r3 : List Cond := [Cond.initialized "java/lang/Math", Cond.code Lib.Math.min.name Lib.Math.min.code 2 (some .int), Cond.methodLink RX2 36 yX0_needs, Cond.static yX0_needs, Cond.initialized RX0, Cond.code yX0_needs cX0_needs 4 (some .int), Cond.methodLink RX2 54 yX0_wears, Cond.static yX0_wears, Cond.code yX0_wears cX0_wears 2 (some .int), Cond.methodLink RX2 57 yX0_nextIn, Cond.static yX0_nextIn, Cond.code yX0_nextIn cX0_nextIn 2 (some .int)]
def wsX4_grain : List Cond := .code yX4_grain cX4_grain 8 (some .int) :: ((wsX4_grain_r1 ++ (wsX4_grain_r2 ++ wsX4_grain_r3)) ++ wsX40 ++ wsX10 ++ wsX20)
def wsX4_shares : List Cond := .code yX4_shares cX4_shares 3 (some .int) :: ([.fieldLink RX4 10 "GritIsIssued" "now" "LGritIsIssued$Office;", .fieldLink RX4 159 "GritIsIssued$Office" "people" "I", .fieldLink RX4 111 "GritIsIssued$Office" "store" "I", .methodLink RX4 72 yX4_other, .static yX4_other, .initialized RX4, .code yX4_other cX4_other 2 (some .int), .methodLink RX4 57 yX4_refused, .instanceMethod yX4_refused, .selects RX4 yX4_refused yX4_refused, .code yX4_refused cX4_refused 3 (some .int), .fieldLink RX4 40 "GritIsIssued" "refusals" "[I"] ++ wsX40 ++ wsX10)
def wsX4_richest : List Cond := .code yX4_richest cX4_richest 5 (some .int) :: ([.fieldLink RX4 10 "GritIsIssued" "now" "LGritIsIssued$Office;", .fieldLink RX4 159 "GritIsIssued$Office" "people" "I", .fieldLink RX4 89 "GritIsIssued$Person" "has" "I", .methodLink RX4 79 yX1_at, .instanceMethod yX1_at, .selects RX1 yX1_at yX1_at, .initialized RX1, .code yX1_at cX1_at 2 (some (.object "GritIsIssued$Person")), .fieldLink RX1 11 "GritIsIssued$Office" "room" "[LGritIsIssued$Person;", .fieldLink RX1 18 "GritIsIssued$Office" "nobody" "LGritIsIssued$Person;"] ++ wsX40 ++ wsX10 ++ wsX20)
def wsX4_trusted_r1 : List Cond := [Cond.constant RX4 188 (1000000000), Cond.fieldLink RX4 10 "GritIsIssued" "now" "LGritIsIssued$Office;", Cond.fieldLink RX4 95 "GritIsIssued$Person" "through" "I", Cond.fieldLink RX4 98 "GritIsIssued$Person" "shorts" "I", Cond.methodLink RX4 69 yX4_unknown, Cond.instanceMethod yX4_unknown, Cond.selects RX4 yX4_unknown yX4_unknown, Cond.initialized RX4, Cond.code yX4_unknown cX4_unknown 2 (some .int), Cond.methodLink RX4 226 yX1_knows, Cond.instanceMethod yX1_knows, Cond.selects RX1 yX1_knows yX1_knows, Cond.initialized RX1, Cond.code yX1_knows cX1_knows 2 (some .boolean), Cond.fieldLink RX1 22 "GritIsIssued$Office" "people" "I", Cond.methodLink RX4 57 yX4_refused, Cond.instanceMethod yX4_refused, Cond.selects RX4 yX4_refused yX4_refused, Cond.code yX4_refused cX4_refused 3 (some .int), Cond.fieldLink RX4 40 "GritIsIssued" "refusals" "[I", Cond.methodLink RX4 79 yX1_at, Cond.instanceMethod yX1_at, Cond.selects RX1 yX1_at yX1_at, Cond.code yX1_at cX1_at 2 (some (.object "GritIsIssued$Person"))]
def wsX4_trusted_r2 : List Cond := [Cond.fieldLink RX1 11 "GritIsIssued$Office" "room" "[LGritIsIssued$Person;", Cond.fieldLink RX1 18 "GritIsIssued$Office" "nobody" "LGritIsIssued$Person;"]
def wsX4_trusted : List Cond := .code yX4_trusted cX4_trusted 4 (some .int) :: ((wsX4_trusted_r1 ++ wsX4_trusted_r2) ++ wsX40 ++ wsX20 ++ wsX10)
def wsX4_worth : List Cond := .code yX4_worth cX4_worth 1 (some .int) :: ([.fieldLink RX4 10 "GritIsIssued" "now" "LGritIsIssued$Office;", .methodLink RX4 124 yX1_allThrough, .instanceMethod yX1_allThrough, .selects RX1 yX1_allThrough yX1_allThrough, .initialized RX1, .code yX1_allThrough cX1_allThrough 3 (some .int), .fieldLink RX1 22 "GritIsIssued$Office" "people" "I", .fieldLink RX1 86 "GritIsIssued$Person" "through" "I", .methodLink RX1 35 yX1_at, .instanceMethod yX1_at, .selects RX1 yX1_at yX1_at, .code yX1_at cX1_at 2 (some (.object "GritIsIssued$Person")), .fieldLink RX1 11 "GritIsIssued$Office" "room" "[LGritIsIssued$Person;", .fieldLink RX1 18 "GritIsIssued$Office" "nobody" "LGritIsIssued$Person;", .methodLink RX4 138 yX1_allShort, .instanceMethod yX1_allShort, .selects RX1 yX1_allShort yX1_allShort, .code yX1_allShort cX1_allShort 3 (some .int), .fieldLink RX1 89 "GritIsIssued$Person" "shorts" "I"] ++ wsX40 ++ wsX10 ++ wsX20)
def wsX4_wants_r1 : List Cond := [Cond.fieldLink RX4 10 "GritIsIssued" "now" "LGritIsIssued$Office;", Cond.methodLink RX4 79 yX1_at, Cond.instanceMethod yX1_at, Cond.selects RX1 yX1_at yX1_at, Cond.initialized RX1, Cond.code yX1_at cX1_at 2 (some (.object "GritIsIssued$Person")), Cond.fieldLink RX1 11 "GritIsIssued$Office" "room" "[LGritIsIssued$Person;", Cond.fieldLink RX1 18 "GritIsIssued$Office" "nobody" "LGritIsIssued$Person;", Cond.methodLink RX4 104 yX2_lacking, Cond.instanceMethod yX2_lacking, Cond.selects RX2 yX2_lacking yX2_lacking, Cond.initialized RX2, Cond.code yX2_lacking cX2_lacking 1 (some .int), Cond.fieldLink RX2 21 "GritIsIssued$Person" "due" "I", Cond.fieldLink RX2 18 "GritIsIssued$Person" "has" "I", Cond.methodLink RX2 46 Lib.Math.max.name, Cond.static Lib.Math.max.name, Cond.initialized "java/lang/Math", Cond.code Lib.Math.max.name Lib.Math.max.code 2 (some .int), Cond.methodLink RX2 42 yX2_needed, Cond.instanceMethod yX2_needed, Cond.selects RX2 yX2_needed yX2_needed, Cond.code yX2_needed cX2_needed 1 (some .int), Cond.fieldLink RX2 9 "GritIsIssued$Person" "kind" "I"]
def wsX4_wants_r2 : List Cond := [Cond.fieldLink RX2 15 "GritIsIssued$Person" "figure" "I", Cond.methodLink RX2 36 yX0_needs, Cond.static yX0_needs, Cond.initialized RX0, Cond.code yX0_needs cX0_needs 4 (some .int), Cond.methodLink RX4 267 yX4_weighed, Cond.instanceMethod yX4_weighed, Cond.selects RX4 yX4_weighed yX4_weighed, Cond.initialized RX4, Cond.code yX4_weighed cX4_weighed 3 (some .int), Cond.fieldLink RX4 46 "GritIsIssued" "throughGiven" "[I", Cond.fieldLink RX4 43 "GritIsIssued" "throughBare" "[I"]
def wsX4_wants : List Cond := .code yX4_wants cX4_wants 6 (some .int) :: ((wsX4_wants_r1 ++ wsX4_wants_r2) ++ wsX40 ++ wsX10 ++ wsX20)
def wsX4_firstWants_r1 : List Cond := [Cond.fieldLink RX4 10 "GritIsIssued" "now" "LGritIsIssued$Office;", Cond.fieldLink RX4 111 "GritIsIssued$Office" "store" "I", Cond.methodLink RX4 271 yX4_wants, Cond.instanceMethod yX4_wants, Cond.selects RX4 yX4_wants yX4_wants, Cond.initialized RX4, Cond.code yX4_wants cX4_wants 6 (some .int), Cond.methodLink RX4 79 yX1_at, Cond.instanceMethod yX1_at, Cond.selects RX1 yX1_at yX1_at, Cond.initialized RX1, Cond.code yX1_at cX1_at 2 (some (.object "GritIsIssued$Person")), Cond.fieldLink RX1 11 "GritIsIssued$Office" "room" "[LGritIsIssued$Person;", Cond.fieldLink RX1 18 "GritIsIssued$Office" "nobody" "LGritIsIssued$Person;", Cond.methodLink RX4 104 yX2_lacking, Cond.instanceMethod yX2_lacking, Cond.selects RX2 yX2_lacking yX2_lacking, Cond.initialized RX2, Cond.code yX2_lacking cX2_lacking 1 (some .int), Cond.fieldLink RX2 21 "GritIsIssued$Person" "due" "I", Cond.fieldLink RX2 18 "GritIsIssued$Person" "has" "I", Cond.methodLink RX2 46 Lib.Math.max.name, Cond.static Lib.Math.max.name, Cond.initialized "java/lang/Math"]
def wsX4_firstWants_r2 : List Cond := [Cond.code Lib.Math.max.name Lib.Math.max.code 2 (some .int), Cond.methodLink RX2 42 yX2_needed, Cond.instanceMethod yX2_needed, Cond.selects RX2 yX2_needed yX2_needed, Cond.code yX2_needed cX2_needed 1 (some .int), Cond.fieldLink RX2 9 "GritIsIssued$Person" "kind" "I", Cond.fieldLink RX2 15 "GritIsIssued$Person" "figure" "I", Cond.methodLink RX2 36 yX0_needs, Cond.static yX0_needs, Cond.initialized RX0, Cond.code yX0_needs cX0_needs 4 (some .int), Cond.methodLink RX4 267 yX4_weighed, Cond.instanceMethod yX4_weighed, Cond.selects RX4 yX4_weighed yX4_weighed, Cond.code yX4_weighed cX4_weighed 3 (some .int), Cond.fieldLink RX4 46 "GritIsIssued" "throughGiven" "[I", Cond.fieldLink RX4 43 "GritIsIssued" "throughBare" "[I"]
def wsX4_firstWants : List Cond := .code yX4_firstWants cX4_firstWants 3 (some .int) :: ((wsX4_firstWants_r1 ++ wsX4_firstWants_r2) ++ wsX40 ++ wsX10 ++ wsX20)
def wsX4_otherWants_r1 : List Cond := [Cond.fieldLink RX4 10 "GritIsIssued" "now" "LGritIsIssued$Office;", Cond.fieldLink RX4 111 "GritIsIssued$Office" "store" "I", Cond.methodLink RX4 79 yX1_at, Cond.instanceMethod yX1_at, Cond.selects RX1 yX1_at yX1_at, Cond.initialized RX1, Cond.code yX1_at cX1_at 2 (some (.object "GritIsIssued$Person")), Cond.fieldLink RX1 11 "GritIsIssued$Office" "room" "[LGritIsIssued$Person;", Cond.fieldLink RX1 18 "GritIsIssued$Office" "nobody" "LGritIsIssued$Person;", Cond.methodLink RX4 104 yX2_lacking, Cond.instanceMethod yX2_lacking, Cond.selects RX2 yX2_lacking yX2_lacking, Cond.initialized RX2, Cond.code yX2_lacking cX2_lacking 1 (some .int), Cond.fieldLink RX2 21 "GritIsIssued$Person" "due" "I", Cond.fieldLink RX2 18 "GritIsIssued$Person" "has" "I", Cond.methodLink RX2 46 Lib.Math.max.name, Cond.static Lib.Math.max.name, Cond.initialized "java/lang/Math", Cond.code Lib.Math.max.name Lib.Math.max.code 2 (some .int), Cond.methodLink RX2 42 yX2_needed, Cond.instanceMethod yX2_needed, Cond.selects RX2 yX2_needed yX2_needed, Cond.code yX2_needed cX2_needed 1 (some .int)]
def wsX4_otherWants_r2 : List Cond := [Cond.fieldLink RX2 9 "GritIsIssued$Person" "kind" "I", Cond.fieldLink RX2 15 "GritIsIssued$Person" "figure" "I", Cond.methodLink RX2 36 yX0_needs, Cond.static yX0_needs, Cond.initialized RX0, Cond.code yX0_needs cX0_needs 4 (some .int), Cond.methodLink RX4 271 yX4_wants, Cond.instanceMethod yX4_wants, Cond.selects RX4 yX4_wants yX4_wants, Cond.initialized RX4, Cond.code yX4_wants cX4_wants 6 (some .int), Cond.methodLink RX4 267 yX4_weighed, Cond.instanceMethod yX4_weighed, Cond.selects RX4 yX4_weighed yX4_weighed, Cond.code yX4_weighed cX4_weighed 3 (some .int), Cond.fieldLink RX4 46 "GritIsIssued" "throughGiven" "[I", Cond.fieldLink RX4 43 "GritIsIssued" "throughBare" "[I"]
def wsX4_otherWants : List Cond := .code yX4_otherWants cX4_otherWants 7 (some .int) :: ((wsX4_otherWants_r1 ++ wsX4_otherWants_r2) ++ wsX40 ++ wsX10 ++ wsX20)
def wsX4_two_r1 : List Cond := [Cond.methodLink RX4 69 yX4_unknown, Cond.instanceMethod yX4_unknown, Cond.selects RX4 yX4_unknown yX4_unknown, Cond.initialized RX4, Cond.code yX4_unknown cX4_unknown 2 (some .int), Cond.fieldLink RX4 10 "GritIsIssued" "now" "LGritIsIssued$Office;", Cond.methodLink RX4 226 yX1_knows, Cond.instanceMethod yX1_knows, Cond.selects RX1 yX1_knows yX1_knows, Cond.initialized RX1, Cond.code yX1_knows cX1_knows 2 (some .boolean), Cond.fieldLink RX1 22 "GritIsIssued$Office" "people" "I", Cond.methodLink RX4 76 yX4_firstOf, Cond.static yX4_firstOf, Cond.code yX4_firstOf cX4_firstOf 3 (some .int), Cond.methodLink RX4 49 yX4_outside, Cond.static yX4_outside, Cond.code yX4_outside cX4_outside 3 (some .int), Cond.methodLink RX4 57 yX4_refused, Cond.instanceMethod yX4_refused, Cond.selects RX4 yX4_refused yX4_refused, Cond.code yX4_refused cX4_refused 3 (some .int), Cond.fieldLink RX4 40 "GritIsIssued" "refusals" "[I", Cond.methodLink RX4 173 yX4_weigh]
def wsX4_two_r2 : List Cond := [Cond.instanceMethod yX4_weigh, Cond.selects RX4 yX4_weigh yX4_weigh, Cond.code yX4_weigh cX4_weigh 5 none, Cond.fieldLink RX4 159 "GritIsIssued$Office" "people" "I", Cond.fieldLink RX4 89 "GritIsIssued$Person" "has" "I", Cond.fieldLink RX4 43 "GritIsIssued" "throughBare" "[I", Cond.fieldLink RX4 46 "GritIsIssued" "throughGiven" "[I", Cond.methodLink RX4 79 yX1_at, Cond.instanceMethod yX1_at, Cond.selects RX1 yX1_at yX1_at, Cond.code yX1_at cX1_at 2 (some (.object "GritIsIssued$Person")), Cond.fieldLink RX1 11 "GritIsIssued$Office" "room" "[LGritIsIssued$Person;", Cond.fieldLink RX1 18 "GritIsIssued$Office" "nobody" "LGritIsIssued$Person;", Cond.methodLink RX4 104 yX2_lacking, Cond.instanceMethod yX2_lacking, Cond.selects RX2 yX2_lacking yX2_lacking, Cond.initialized RX2, Cond.code yX2_lacking cX2_lacking 1 (some .int), Cond.fieldLink RX2 21 "GritIsIssued$Person" "due" "I", Cond.fieldLink RX2 18 "GritIsIssued$Person" "has" "I", Cond.methodLink RX2 46 Lib.Math.max.name, Cond.static Lib.Math.max.name, Cond.initialized "java/lang/Math", Cond.code Lib.Math.max.name Lib.Math.max.code 2 (some .int)]
def wsX4_two_r3 : List Cond := [Cond.methodLink RX2 42 yX2_needed, Cond.instanceMethod yX2_needed, Cond.selects RX2 yX2_needed yX2_needed, Cond.code yX2_needed cX2_needed 1 (some .int), Cond.fieldLink RX2 9 "GritIsIssued$Person" "kind" "I", Cond.fieldLink RX2 15 "GritIsIssued$Person" "figure" "I", Cond.methodLink RX2 36 yX0_needs, Cond.static yX0_needs, Cond.initialized RX0, Cond.code yX0_needs cX0_needs 4 (some .int), Cond.methodLink RX4 182 yX4_throughMore, Cond.instanceMethod yX4_throughMore, Cond.selects RX4 yX4_throughMore yX4_throughMore, Cond.code yX4_throughMore cX4_throughMore 4 (some .int), Cond.fieldLink RX4 95 "GritIsIssued$Person" "through" "I", Cond.methodLink RX4 130 yX4_thought, Cond.instanceMethod yX4_thought, Cond.selects RX4 yX4_thought yX4_thought, Cond.code yX4_thought cX4_thought 5 (some (.object "GritIsIssued$Person")), Cond.fieldLink RX4 25 "GritIsIssued" "trial" "LGritIsIssued$Person;", Cond.methodLink RX4 147 yX2_takeFrom, Cond.instanceMethod yX2_takeFrom, Cond.selects RX2 yX2_takeFrom yX2_takeFrom, Cond.code yX2_takeFrom cX2_takeFrom 2 none]
def wsX4_two_r4 : List Cond := [Cond.fieldLink RX2 24 "GritIsIssued$Person" "through" "I", Cond.fieldLink RX2 27 "GritIsIssued$Person" "shorts" "I", Cond.fieldLink RX2 30 "GritIsIssued$Person" "passed" "I", Cond.fieldLink RX2 33 "GritIsIssued$Person" "missed" "I", Cond.methodLink RX4 153 yX2_oneDay, Cond.instanceMethod yX2_oneDay, Cond.selects RX2 yX2_oneDay yX2_oneDay, Cond.code yX2_oneDay cX2_oneDay 3 (some .int), Cond.methodLink RX2 51 Lib.Math.min.name, Cond.static Lib.Math.min.name, Cond.code Lib.Math.min.name Lib.Math.min.code 2 (some .int), Cond.methodLink RX2 54 yX0_wears, Cond.static yX0_wears, Cond.code yX0_wears cX0_wears 2 (some .int), Cond.methodLink RX2 57 yX0_nextIn, Cond.static yX0_nextIn, Cond.code yX0_nextIn cX0_nextIn 2 (some .int), Cond.methodLink RX4 189 yX4_firstWants, Cond.instanceMethod yX4_firstWants, Cond.selects RX4 yX4_firstWants yX4_firstWants, Cond.code yX4_firstWants cX4_firstWants 3 (some .int), Cond.fieldLink RX4 111 "GritIsIssued$Office" "store" "I", Cond.methodLink RX4 271 yX4_wants, Cond.instanceMethod yX4_wants]
def wsX4_two_r5 : List Cond := [Cond.selects RX4 yX4_wants yX4_wants, Cond.code yX4_wants cX4_wants 6 (some .int), Cond.methodLink RX4 267 yX4_weighed, Cond.instanceMethod yX4_weighed, Cond.selects RX4 yX4_weighed yX4_weighed, Cond.code yX4_weighed cX4_weighed 3 (some .int), Cond.methodLink RX4 192 yX4_otherWants, Cond.instanceMethod yX4_otherWants, Cond.selects RX4 yX4_otherWants yX4_otherWants, Cond.code yX4_otherWants cX4_otherWants 7 (some .int)]
def wsX4_two : List Cond := .code yX4_two cX4_two 9 (some .int) :: ((wsX4_two_r1 ++ (wsX4_two_r2 ++ (wsX4_two_r3 ++ (wsX4_two_r4 ++ wsX4_two_r5)))) ++ wsX40 ++ wsX10 ++ wsX20)
def wsX4_throughLosing_r1 : List Cond := [Cond.fieldLink RX4 10 "GritIsIssued" "now" "LGritIsIssued$Office;", Cond.fieldLink RX4 25 "GritIsIssued" "trial" "LGritIsIssued$Person;", Cond.fieldLink RX4 89 "GritIsIssued$Person" "has" "I", Cond.fieldLink RX4 95 "GritIsIssued$Person" "through" "I", Cond.methodLink RX4 79 yX1_at, Cond.instanceMethod yX1_at, Cond.selects RX1 yX1_at yX1_at, Cond.initialized RX1, Cond.code yX1_at cX1_at 2 (some (.object "GritIsIssued$Person")), Cond.fieldLink RX1 11 "GritIsIssued$Office" "room" "[LGritIsIssued$Person;", Cond.fieldLink RX1 18 "GritIsIssued$Office" "nobody" "LGritIsIssued$Person;", Cond.methodLink RX4 147 yX2_takeFrom, Cond.instanceMethod yX2_takeFrom, Cond.selects RX2 yX2_takeFrom yX2_takeFrom, Cond.initialized RX2, Cond.code yX2_takeFrom cX2_takeFrom 2 none, Cond.fieldLink RX2 9 "GritIsIssued$Person" "kind" "I", Cond.fieldLink RX2 15 "GritIsIssued$Person" "figure" "I", Cond.fieldLink RX2 18 "GritIsIssued$Person" "has" "I", Cond.fieldLink RX2 21 "GritIsIssued$Person" "due" "I", Cond.fieldLink RX2 24 "GritIsIssued$Person" "through" "I", Cond.fieldLink RX2 27 "GritIsIssued$Person" "shorts" "I", Cond.fieldLink RX2 30 "GritIsIssued$Person" "passed" "I", Cond.fieldLink RX2 33 "GritIsIssued$Person" "missed" "I"]
def wsX4_throughLosing_r2 : List Cond := [Cond.methodLink RX4 153 yX2_oneDay, Cond.instanceMethod yX2_oneDay, Cond.selects RX2 yX2_oneDay yX2_oneDay, Cond.code yX2_oneDay cX2_oneDay 3 (some .int), Cond.methodLink RX2 51 Lib.Math.min.name, Cond.static Lib.Math.min.name, Cond.initialized "java/lang/Math", Cond.code Lib.Math.min.name Lib.Math.min.code 2 (some .int), Cond.methodLink RX2 36 yX0_needs, Cond.static yX0_needs, Cond.initialized RX0, Cond.code yX0_needs cX0_needs 4 (some .int), Cond.methodLink RX2 54 yX0_wears, Cond.static yX0_wears, Cond.code yX0_wears cX0_wears 2 (some .int), Cond.methodLink RX2 57 yX0_nextIn, Cond.static yX0_nextIn, Cond.code yX0_nextIn cX0_nextIn 2 (some .int)]
def wsX4_throughLosing : List Cond := .code yX4_throughLosing cX4_throughLosing 6 (some .int) :: ((wsX4_throughLosing_r1 ++ wsX4_throughLosing_r2) ++ wsX40 ++ wsX20 ++ wsX10)
def wsX4_power : List Cond := .code yX4_power cX4_power 6 (some .long) :: ([])
def wsX4_leastTerms : List Cond := .code yX4_leastTerms cX4_leastTerms 12 (some .long) :: ([])
def wsX4_slip_r1 : List Cond := [Cond.constantLong RX4 196 (4000000000000000000), Cond.methodLink RX4 69 yX4_unknown, Cond.instanceMethod yX4_unknown, Cond.selects RX4 yX4_unknown yX4_unknown, Cond.initialized RX4, Cond.code yX4_unknown cX4_unknown 2 (some .int), Cond.fieldLink RX4 10 "GritIsIssued" "now" "LGritIsIssued$Office;", Cond.methodLink RX4 226 yX1_knows, Cond.instanceMethod yX1_knows, Cond.selects RX1 yX1_knows yX1_knows, Cond.initialized RX1, Cond.code yX1_knows cX1_knows 2 (some .boolean), Cond.fieldLink RX1 22 "GritIsIssued$Office" "people" "I", Cond.methodLink RX4 76 yX4_firstOf, Cond.static yX4_firstOf, Cond.code yX4_firstOf cX4_firstOf 3 (some .int), Cond.methodLink RX4 72 yX4_other, Cond.static yX4_other, Cond.code yX4_other cX4_other 2 (some .int), Cond.methodLink RX4 57 yX4_refused, Cond.instanceMethod yX4_refused, Cond.selects RX4 yX4_refused yX4_refused, Cond.code yX4_refused cX4_refused 3 (some .int), Cond.fieldLink RX4 40 "GritIsIssued" "refusals" "[I"]
def wsX4_slip_r2 : List Cond := [Cond.methodLink RX4 198 yX4_throughLosing, Cond.instanceMethod yX4_throughLosing, Cond.selects RX4 yX4_throughLosing yX4_throughLosing, Cond.code yX4_throughLosing cX4_throughLosing 6 (some .int), Cond.fieldLink RX4 25 "GritIsIssued" "trial" "LGritIsIssued$Person;", Cond.fieldLink RX4 89 "GritIsIssued$Person" "has" "I", Cond.fieldLink RX4 95 "GritIsIssued$Person" "through" "I", Cond.methodLink RX4 79 yX1_at, Cond.instanceMethod yX1_at, Cond.selects RX1 yX1_at yX1_at, Cond.code yX1_at cX1_at 2 (some (.object "GritIsIssued$Person")), Cond.fieldLink RX1 11 "GritIsIssued$Office" "room" "[LGritIsIssued$Person;", Cond.fieldLink RX1 18 "GritIsIssued$Office" "nobody" "LGritIsIssued$Person;", Cond.methodLink RX4 147 yX2_takeFrom, Cond.instanceMethod yX2_takeFrom, Cond.selects RX2 yX2_takeFrom yX2_takeFrom, Cond.initialized RX2, Cond.code yX2_takeFrom cX2_takeFrom 2 none, Cond.fieldLink RX2 9 "GritIsIssued$Person" "kind" "I", Cond.fieldLink RX2 15 "GritIsIssued$Person" "figure" "I", Cond.fieldLink RX2 18 "GritIsIssued$Person" "has" "I", Cond.fieldLink RX2 21 "GritIsIssued$Person" "due" "I", Cond.fieldLink RX2 24 "GritIsIssued$Person" "through" "I", Cond.fieldLink RX2 27 "GritIsIssued$Person" "shorts" "I"]
def wsX4_slip_r3 : List Cond := [Cond.fieldLink RX2 30 "GritIsIssued$Person" "passed" "I", Cond.fieldLink RX2 33 "GritIsIssued$Person" "missed" "I", Cond.methodLink RX4 153 yX2_oneDay, Cond.instanceMethod yX2_oneDay, Cond.selects RX2 yX2_oneDay yX2_oneDay, Cond.code yX2_oneDay cX2_oneDay 3 (some .int), Cond.methodLink RX2 51 Lib.Math.min.name, Cond.static Lib.Math.min.name, Cond.initialized "java/lang/Math", Cond.code Lib.Math.min.name Lib.Math.min.code 2 (some .int), Cond.methodLink RX2 36 yX0_needs, Cond.static yX0_needs, Cond.initialized RX0, Cond.code yX0_needs cX0_needs 4 (some .int), Cond.methodLink RX2 54 yX0_wears, Cond.static yX0_wears, Cond.code yX0_wears cX0_wears 2 (some .int), Cond.methodLink RX2 57 yX0_nextIn, Cond.static yX0_nextIn, Cond.code yX0_nextIn cX0_nextIn 2 (some .int), Cond.methodLink RX4 162 yJ6_bitCount_0f7a4, Cond.static yJ6_bitCount_0f7a4, Cond.initialized RJ6, Cond.code yJ6_bitCount_0f7a4 cJ6_bitCount_0f7a4 1 (some .int)]
def wsX4_slip_r4 : List Cond := [Cond.constant RJ6 265 (1431655765), Cond.constant RJ6 266 (858993459), Cond.constant RJ6 267 (252645135), Cond.methodLink RX4 201 yX4_power, Cond.static yX4_power, Cond.code yX4_power cX4_power 6 (some .long), Cond.methodLink RX4 205 yX4_leastTerms, Cond.static yX4_leastTerms, Cond.code yX4_leastTerms cX4_leastTerms 12 (some .long)]
def wsX4_slip : List Cond := .code yX4_slip cX4_slip 12 (some .long) :: ((wsX4_slip_r1 ++ (wsX4_slip_r2 ++ (wsX4_slip_r3 ++ wsX4_slip_r4))) ++ wsX40 ++ wsX10 ++ wsX20)
def wsX4_mean_r1 : List Cond := [Cond.constantLong RX4 196 (4000000000000000000), Cond.fieldLink RX4 10 "GritIsIssued" "now" "LGritIsIssued$Office;", Cond.fieldLink RX4 159 "GritIsIssued$Office" "people" "I", Cond.methodLink RX4 72 yX4_other, Cond.static yX4_other, Cond.initialized RX4, Cond.code yX4_other cX4_other 2 (some .int), Cond.methodLink RX4 57 yX4_refused, Cond.instanceMethod yX4_refused, Cond.selects RX4 yX4_refused yX4_refused, Cond.code yX4_refused cX4_refused 3 (some .int), Cond.fieldLink RX4 40 "GritIsIssued" "refusals" "[I", Cond.methodLink RX4 209 yX1_allHas, Cond.instanceMethod yX1_allHas, Cond.selects RX1 yX1_allHas yX1_allHas, Cond.initialized RX1, Cond.code yX1_allHas cX1_allHas 3 (some .int), Cond.fieldLink RX1 22 "GritIsIssued$Office" "people" "I", Cond.fieldLink RX1 56 "GritIsIssued$Person" "has" "I", Cond.methodLink RX1 35 yX1_at, Cond.instanceMethod yX1_at, Cond.selects RX1 yX1_at yX1_at, Cond.code yX1_at cX1_at 2 (some (.object "GritIsIssued$Person")), Cond.fieldLink RX1 11 "GritIsIssued$Office" "room" "[LGritIsIssued$Person;"]
def wsX4_mean_r2 : List Cond := [Cond.fieldLink RX1 18 "GritIsIssued$Office" "nobody" "LGritIsIssued$Person;", Cond.methodLink RX4 205 yX4_leastTerms, Cond.static yX4_leastTerms, Cond.code yX4_leastTerms cX4_leastTerms 12 (some .long)]
def wsX4_mean : List Cond := .code yX4_mean cX4_mean 3 (some .long) :: ((wsX4_mean_r1 ++ wsX4_mean_r2) ++ wsX40 ++ wsX10 ++ wsX20)
def wsX4_rowIsOfTrial_r1 : List Cond := [Cond.fieldLink RX4 223 "GritIsIssued" "rowCount" "I", Cond.fieldLink RX4 36 "GritIsIssued" "row" "[I", Cond.fieldLink RX4 25 "GritIsIssued" "trial" "LGritIsIssued$Person;", Cond.fieldLink RX4 89 "GritIsIssued$Person" "has" "I", Cond.methodLink RX4 153 yX2_oneDay, Cond.instanceMethod yX2_oneDay, Cond.selects RX2 yX2_oneDay yX2_oneDay, Cond.initialized RX2, Cond.code yX2_oneDay cX2_oneDay 3 (some .int), Cond.fieldLink RX2 21 "GritIsIssued$Person" "due" "I", Cond.fieldLink RX2 9 "GritIsIssued$Person" "kind" "I", Cond.fieldLink RX2 15 "GritIsIssued$Person" "figure" "I", Cond.fieldLink RX2 18 "GritIsIssued$Person" "has" "I", Cond.fieldLink RX2 30 "GritIsIssued$Person" "passed" "I", Cond.fieldLink RX2 24 "GritIsIssued$Person" "through" "I", Cond.methodLink RX2 51 Lib.Math.min.name, Cond.static Lib.Math.min.name, Cond.initialized "java/lang/Math", Cond.code Lib.Math.min.name Lib.Math.min.code 2 (some .int), Cond.fieldLink RX2 33 "GritIsIssued$Person" "missed" "I", Cond.fieldLink RX2 27 "GritIsIssued$Person" "shorts" "I", Cond.methodLink RX2 36 yX0_needs, Cond.static yX0_needs, Cond.initialized RX0]
def wsX4_rowIsOfTrial_r2 : List Cond := [Cond.code yX0_needs cX0_needs 4 (some .int), Cond.methodLink RX2 54 yX0_wears, Cond.static yX0_wears, Cond.code yX0_wears cX0_wears 2 (some .int), Cond.methodLink RX2 57 yX0_nextIn, Cond.static yX0_nextIn, Cond.code yX0_nextIn cX0_nextIn 2 (some .int)]
def wsX4_rowIsOfTrial : List Cond := .code yX4_rowIsOfTrial cX4_rowIsOfTrial 2 (some .boolean) :: ((wsX4_rowIsOfTrial_r1 ++ wsX4_rowIsOfTrial_r2) ++ wsX40 ++ wsX20)
def wsX4_whatIs_r1 : List Cond := [Cond.fieldLink RX4 25 "GritIsIssued" "trial" "LGritIsIssued$Person;", Cond.fieldLink RX4 10 "GritIsIssued" "now" "LGritIsIssued$Office;", Cond.fieldLink RX4 83 "GritIsIssued$Person" "kind" "I", Cond.fieldLink RX4 86 "GritIsIssued$Person" "figure" "I", Cond.methodLink RX4 69 yX4_unknown, Cond.instanceMethod yX4_unknown, Cond.selects RX4 yX4_unknown yX4_unknown, Cond.initialized RX4, Cond.code yX4_unknown cX4_unknown 2 (some .int), Cond.methodLink RX4 226 yX1_knows, Cond.instanceMethod yX1_knows, Cond.selects RX1 yX1_knows yX1_knows, Cond.initialized RX1, Cond.code yX1_knows cX1_knows 2 (some .boolean), Cond.fieldLink RX1 22 "GritIsIssued$Office" "people" "I", Cond.methodLink RX4 72 yX4_other, Cond.static yX4_other, Cond.code yX4_other cX4_other 2 (some .int), Cond.methodLink RX4 76 yX4_firstOf, Cond.static yX4_firstOf, Cond.code yX4_firstOf cX4_firstOf 3 (some .int), Cond.methodLink RX4 57 yX4_refused, Cond.instanceMethod yX4_refused, Cond.selects RX4 yX4_refused yX4_refused]
def wsX4_whatIs_r2 : List Cond := [Cond.code yX4_refused cX4_refused 3 (some .int), Cond.fieldLink RX4 40 "GritIsIssued" "refusals" "[I", Cond.methodLink RX4 214 yJ0_length_8abf5, Cond.instanceMethod yJ0_length_8abf5, Cond.selects RJ0 yJ0_length_8abf5 yJ0_length_8abf5, Cond.initialized RJ0, Cond.code yJ0_length_8abf5 cJ0_length_8abf5 1 (some .int), Cond.fieldLink RJ0 9 "java/lang/String" "value" "[B", Cond.methodLink RJ0 335 yJ0_coder_7d493, Cond.instanceMethod yJ0_coder_7d493, Cond.selects RJ0 yJ0_coder_7d493 yJ0_coder_7d493, Cond.code yJ0_coder_7d493 cJ0_coder_7d493 1 (some .byte), Cond.fieldLink RJ0 38 "java/lang/String" "COMPACT_STRINGS" "Z", Cond.fieldLink RJ0 15 "java/lang/String" "coder" "B", Cond.methodLink RX4 79 yX1_at, Cond.instanceMethod yX1_at, Cond.selects RX1 yX1_at yX1_at, Cond.code yX1_at cX1_at 2 (some (.object "GritIsIssued$Person")), Cond.fieldLink RX1 11 "GritIsIssued$Office" "room" "[LGritIsIssued$Person;", Cond.fieldLink RX1 18 "GritIsIssued$Office" "nobody" "LGritIsIssued$Person;", Cond.methodLink RX4 147 yX2_takeFrom, Cond.instanceMethod yX2_takeFrom, Cond.selects RX2 yX2_takeFrom yX2_takeFrom, Cond.initialized RX2]
def wsX4_whatIs_r3 : List Cond := [Cond.code yX2_takeFrom cX2_takeFrom 2 none, Cond.fieldLink RX2 9 "GritIsIssued$Person" "kind" "I", Cond.fieldLink RX2 15 "GritIsIssued$Person" "figure" "I", Cond.fieldLink RX2 18 "GritIsIssued$Person" "has" "I", Cond.fieldLink RX2 21 "GritIsIssued$Person" "due" "I", Cond.fieldLink RX2 24 "GritIsIssued$Person" "through" "I", Cond.fieldLink RX2 27 "GritIsIssued$Person" "shorts" "I", Cond.fieldLink RX2 30 "GritIsIssued$Person" "passed" "I", Cond.fieldLink RX2 33 "GritIsIssued$Person" "missed" "I", Cond.methodLink RX4 219 yX4_rowIsOfTrial, Cond.instanceMethod yX4_rowIsOfTrial, Cond.selects RX4 yX4_rowIsOfTrial yX4_rowIsOfTrial, Cond.code yX4_rowIsOfTrial cX4_rowIsOfTrial 2 (some .boolean), Cond.fieldLink RX4 223 "GritIsIssued" "rowCount" "I", Cond.fieldLink RX4 36 "GritIsIssued" "row" "[I", Cond.fieldLink RX4 89 "GritIsIssued$Person" "has" "I", Cond.methodLink RX4 153 yX2_oneDay, Cond.instanceMethod yX2_oneDay, Cond.selects RX2 yX2_oneDay yX2_oneDay, Cond.code yX2_oneDay cX2_oneDay 3 (some .int), Cond.methodLink RX2 51 Lib.Math.min.name, Cond.static Lib.Math.min.name, Cond.initialized "java/lang/Math", Cond.code Lib.Math.min.name Lib.Math.min.code 2 (some .int)]
def wsX4_whatIs_r4 : List Cond := [Cond.methodLink RX2 36 yX0_needs, Cond.static yX0_needs, Cond.initialized RX0, Cond.code yX0_needs cX0_needs 4 (some .int), Cond.methodLink RX2 54 yX0_wears, Cond.static yX0_wears, Cond.code yX0_wears cX0_wears 2 (some .int), Cond.methodLink RX2 57 yX0_nextIn, Cond.static yX0_nextIn, Cond.code yX0_nextIn cX0_nextIn 2 (some .int)]
def wsX4_whatIs : List Cond := .code yX4_whatIs cX4_whatIs 7 (some .int) :: ((wsX4_whatIs_r1 ++ (wsX4_whatIs_r2 ++ (wsX4_whatIs_r3 ++ wsX4_whatIs_r4))) ++ wsX40 ++ wsX20 ++ wsX10)
def wsX4_row : List Cond := .code yX4_row cX4_row 3 (some .int) :: ([.fieldLink RX4 223 "GritIsIssued" "rowCount" "I", .fieldLink RX4 36 "GritIsIssued" "row" "[I", .methodLink RX4 49 yX4_outside, .static yX4_outside, .initialized RX4, .code yX4_outside cX4_outside 3 (some .int), .methodLink RX4 57 yX4_refused, .instanceMethod yX4_refused, .selects RX4 yX4_refused yX4_refused, .code yX4_refused cX4_refused 3 (some .int), .fieldLink RX4 40 "GritIsIssued" "refusals" "[I"] ++ wsX40)
def wsX4_judge : List Cond := .code yX4_judge cX4_judge 3 (some .int) :: ([.fieldLink RX4 223 "GritIsIssued" "rowCount" "I", .fieldLink RX4 36 "GritIsIssued" "row" "[I", .fieldLink RX4 10 "GritIsIssued" "now" "LGritIsIssued$Office;", .fieldLink RX4 92 "GritIsIssued$Person" "due" "I", .methodLink RX4 226 yX1_knows, .instanceMethod yX1_knows, .selects RX1 yX1_knows yX1_knows, .initialized RX1, .code yX1_knows cX1_knows 2 (some .boolean), .fieldLink RX1 22 "GritIsIssued$Office" "people" "I", .methodLink RX4 79 yX1_at, .instanceMethod yX1_at, .selects RX1 yX1_at yX1_at, .code yX1_at cX1_at 2 (some (.object "GritIsIssued$Person")), .fieldLink RX1 11 "GritIsIssued$Office" "room" "[LGritIsIssued$Person;", .fieldLink RX1 18 "GritIsIssued$Office" "nobody" "LGritIsIssued$Person;"] ++ wsX40 ++ wsX20 ++ wsX10)
def wsX4_clear : List Cond := .code yX4_clear cX4_clear 2 (some .int) :: ([.fieldLink RX4 223 "GritIsIssued" "rowCount" "I"] ++ wsX40)
def wsX4_lots_r1 : List Cond := [Cond.fieldLink RX4 16 "GritIsIssued" "mind" "LGritIsIssued$Office;", Cond.fieldLink RX4 10 "GritIsIssued" "now" "LGritIsIssued$Office;", Cond.fieldLink RX4 159 "GritIsIssued$Office" "people" "I", Cond.constant RX4 229 (1664525), Cond.constant RX4 230 (1013904223), Cond.constant RX4 231 (2147483647), Cond.fieldLink RX4 89 "GritIsIssued$Person" "has" "I", Cond.methodLink RX4 49 yX4_outside, Cond.static yX4_outside, Cond.initialized RX4, Cond.code yX4_outside cX4_outside 3 (some .int), Cond.methodLink RX4 72 yX4_other, Cond.static yX4_other, Cond.code yX4_other cX4_other 2 (some .int), Cond.methodLink RX4 76 yX4_firstOf, Cond.static yX4_firstOf, Cond.code yX4_firstOf cX4_firstOf 3 (some .int), Cond.methodLink RX4 57 yX4_refused, Cond.instanceMethod yX4_refused, Cond.selects RX4 yX4_refused yX4_refused, Cond.code yX4_refused cX4_refused 3 (some .int), Cond.fieldLink RX4 40 "GritIsIssued" "refusals" "[I", Cond.methodLink RX4 134 yX1_takeFrom, Cond.instanceMethod yX1_takeFrom]
def wsX4_lots_r2 : List Cond := [Cond.selects RX1 yX1_takeFrom yX1_takeFrom, Cond.initialized RX1, Cond.code yX1_takeFrom cX1_takeFrom 3 none, Cond.fieldLink RX1 22 "GritIsIssued$Office" "people" "I", Cond.fieldLink RX1 26 "GritIsIssued$Office" "store" "I", Cond.fieldLink RX1 29 "GritIsIssued$Office" "worn" "I", Cond.fieldLink RX1 32 "GritIsIssued$Office" "day" "I", Cond.methodLink RX1 35 yX1_at, Cond.instanceMethod yX1_at, Cond.selects RX1 yX1_at yX1_at, Cond.code yX1_at cX1_at 2 (some (.object "GritIsIssued$Person")), Cond.fieldLink RX1 11 "GritIsIssued$Office" "room" "[LGritIsIssued$Person;", Cond.fieldLink RX1 18 "GritIsIssued$Office" "nobody" "LGritIsIssued$Person;", Cond.methodLink RX1 39 yX2_takeFrom, Cond.instanceMethod yX2_takeFrom, Cond.selects RX2 yX2_takeFrom yX2_takeFrom, Cond.initialized RX2, Cond.code yX2_takeFrom cX2_takeFrom 2 none, Cond.fieldLink RX2 9 "GritIsIssued$Person" "kind" "I", Cond.fieldLink RX2 15 "GritIsIssued$Person" "figure" "I", Cond.fieldLink RX2 18 "GritIsIssued$Person" "has" "I", Cond.fieldLink RX2 21 "GritIsIssued$Person" "due" "I", Cond.fieldLink RX2 24 "GritIsIssued$Person" "through" "I", Cond.fieldLink RX2 27 "GritIsIssued$Person" "shorts" "I"]
def wsX4_lots_r3 : List Cond := [Cond.fieldLink RX2 30 "GritIsIssued$Person" "passed" "I", Cond.fieldLink RX2 33 "GritIsIssued$Person" "missed" "I", Cond.methodLink RX4 79 yX1_at, Cond.methodLink RX4 127 yX1_daysGoBy, Cond.instanceMethod yX1_daysGoBy, Cond.selects RX1 yX1_daysGoBy yX1_daysGoBy, Cond.code yX1_daysGoBy cX1_daysGoBy 4 none, Cond.methodLink RX1 72 yX2_oneDay, Cond.instanceMethod yX2_oneDay, Cond.selects RX2 yX2_oneDay yX2_oneDay, Cond.code yX2_oneDay cX2_oneDay 3 (some .int), Cond.methodLink RX2 51 Lib.Math.min.name, Cond.static Lib.Math.min.name, Cond.initialized "java/lang/Math", Cond.code Lib.Math.min.name Lib.Math.min.code 2 (some .int), Cond.methodLink RX2 36 yX0_needs, Cond.static yX0_needs, Cond.initialized RX0, Cond.code yX0_needs cX0_needs 4 (some .int), Cond.methodLink RX2 54 yX0_wears, Cond.static yX0_wears, Cond.code yX0_wears cX0_wears 2 (some .int), Cond.methodLink RX2 57 yX0_nextIn, Cond.static yX0_nextIn]
def wsX4_lots_r4 : List Cond := [Cond.code yX0_nextIn cX0_nextIn 2 (some .int), Cond.methodLink RX1 65 yX1_wear, Cond.instanceMethod yX1_wear, Cond.selects RX1 yX1_wear yX1_wear, Cond.code yX1_wear cX1_wear 2 none, Cond.methodLink RX1 59 Lib.Math.min.name, Cond.methodLink RX4 124 yX1_allThrough, Cond.instanceMethod yX1_allThrough, Cond.selects RX1 yX1_allThrough yX1_allThrough, Cond.code yX1_allThrough cX1_allThrough 3 (some .int), Cond.fieldLink RX1 86 "GritIsIssued$Person" "through" "I", Cond.methodLink RX4 138 yX1_allShort, Cond.instanceMethod yX1_allShort, Cond.selects RX1 yX1_allShort yX1_allShort, Cond.code yX1_allShort cX1_allShort 3 (some .int), Cond.fieldLink RX1 89 "GritIsIssued$Person" "shorts" "I"]
def wsX4_lots : List Cond := .code yX4_lots cX4_lots 9 (some .int) :: ((wsX4_lots_r1 ++ (wsX4_lots_r2 ++ (wsX4_lots_r3 ++ wsX4_lots_r4))) ++ wsX40 ++ wsX10 ++ wsX20)
def wsX4_image_r1 : List Cond := [Cond.fieldLink RX4 19 "GritIsIssued" "image" "LGritIsIssued$Office;", Cond.fieldLink RX4 10 "GritIsIssued" "now" "LGritIsIssued$Office;", Cond.fieldLink RX4 232 "GritIsIssued" "hasImage" "Z", Cond.fieldLink RX4 121 "GritIsIssued$Office" "day" "I", Cond.methodLink RX4 134 yX1_takeFrom, Cond.instanceMethod yX1_takeFrom, Cond.selects RX1 yX1_takeFrom yX1_takeFrom, Cond.initialized RX1, Cond.code yX1_takeFrom cX1_takeFrom 3 none, Cond.fieldLink RX1 22 "GritIsIssued$Office" "people" "I", Cond.fieldLink RX1 26 "GritIsIssued$Office" "store" "I", Cond.fieldLink RX1 29 "GritIsIssued$Office" "worn" "I", Cond.fieldLink RX1 32 "GritIsIssued$Office" "day" "I", Cond.methodLink RX1 35 yX1_at, Cond.instanceMethod yX1_at, Cond.selects RX1 yX1_at yX1_at, Cond.code yX1_at cX1_at 2 (some (.object "GritIsIssued$Person")), Cond.fieldLink RX1 11 "GritIsIssued$Office" "room" "[LGritIsIssued$Person;", Cond.fieldLink RX1 18 "GritIsIssued$Office" "nobody" "LGritIsIssued$Person;", Cond.methodLink RX1 39 yX2_takeFrom, Cond.instanceMethod yX2_takeFrom, Cond.selects RX2 yX2_takeFrom yX2_takeFrom, Cond.initialized RX2, Cond.code yX2_takeFrom cX2_takeFrom 2 none]
def wsX4_image_r2 : List Cond := [Cond.fieldLink RX2 9 "GritIsIssued$Person" "kind" "I", Cond.fieldLink RX2 15 "GritIsIssued$Person" "figure" "I", Cond.fieldLink RX2 18 "GritIsIssued$Person" "has" "I", Cond.fieldLink RX2 21 "GritIsIssued$Person" "due" "I", Cond.fieldLink RX2 24 "GritIsIssued$Person" "through" "I", Cond.fieldLink RX2 27 "GritIsIssued$Person" "shorts" "I", Cond.fieldLink RX2 30 "GritIsIssued$Person" "passed" "I", Cond.fieldLink RX2 33 "GritIsIssued$Person" "missed" "I"]
def wsX4_image : List Cond := .code yX4_image cX4_image 1 (some .int) :: ((wsX4_image_r1 ++ wsX4_image_r2) ++ wsX40 ++ wsX10 ++ wsX20)
def wsX4_on_r1 : List Cond := [Cond.fieldLink RX4 232 "GritIsIssued" "hasImage" "Z", Cond.fieldLink RX4 10 "GritIsIssued" "now" "LGritIsIssued$Office;", Cond.fieldLink RX4 19 "GritIsIssued" "image" "LGritIsIssued$Office;", Cond.fieldLink RX4 121 "GritIsIssued$Office" "day" "I", Cond.methodLink RX4 57 yX4_refused, Cond.instanceMethod yX4_refused, Cond.selects RX4 yX4_refused yX4_refused, Cond.initialized RX4, Cond.code yX4_refused cX4_refused 3 (some .int), Cond.fieldLink RX4 40 "GritIsIssued" "refusals" "[I", Cond.methodLink RX4 134 yX1_takeFrom, Cond.instanceMethod yX1_takeFrom, Cond.selects RX1 yX1_takeFrom yX1_takeFrom, Cond.initialized RX1, Cond.code yX1_takeFrom cX1_takeFrom 3 none, Cond.fieldLink RX1 22 "GritIsIssued$Office" "people" "I", Cond.fieldLink RX1 26 "GritIsIssued$Office" "store" "I", Cond.fieldLink RX1 29 "GritIsIssued$Office" "worn" "I", Cond.fieldLink RX1 32 "GritIsIssued$Office" "day" "I", Cond.methodLink RX1 35 yX1_at, Cond.instanceMethod yX1_at, Cond.selects RX1 yX1_at yX1_at, Cond.code yX1_at cX1_at 2 (some (.object "GritIsIssued$Person")), Cond.fieldLink RX1 11 "GritIsIssued$Office" "room" "[LGritIsIssued$Person;"]
def wsX4_on_r2 : List Cond := [Cond.fieldLink RX1 18 "GritIsIssued$Office" "nobody" "LGritIsIssued$Person;", Cond.methodLink RX1 39 yX2_takeFrom, Cond.instanceMethod yX2_takeFrom, Cond.selects RX2 yX2_takeFrom yX2_takeFrom, Cond.initialized RX2, Cond.code yX2_takeFrom cX2_takeFrom 2 none, Cond.fieldLink RX2 9 "GritIsIssued$Person" "kind" "I", Cond.fieldLink RX2 15 "GritIsIssued$Person" "figure" "I", Cond.fieldLink RX2 18 "GritIsIssued$Person" "has" "I", Cond.fieldLink RX2 21 "GritIsIssued$Person" "due" "I", Cond.fieldLink RX2 24 "GritIsIssued$Person" "through" "I", Cond.fieldLink RX2 27 "GritIsIssued$Person" "shorts" "I", Cond.fieldLink RX2 30 "GritIsIssued$Person" "passed" "I", Cond.fieldLink RX2 33 "GritIsIssued$Person" "missed" "I"]
def wsX4_on : List Cond := .code yX4_on cX4_on 1 (some .int) :: ((wsX4_on_r1 ++ wsX4_on_r2) ++ wsX40 ++ wsX10 ++ wsX20)
def wsX4_count_r1 : List Cond := [Cond.fieldLink RX4 40 "GritIsIssued" "refusals" "[I", Cond.fieldLink RX4 10 "GritIsIssued" "now" "LGritIsIssued$Office;", Cond.fieldLink RX4 159 "GritIsIssued$Office" "people" "I", Cond.fieldLink RX4 121 "GritIsIssued$Office" "day" "I", Cond.fieldLink RX4 111 "GritIsIssued$Office" "store" "I", Cond.fieldLink RX4 141 "GritIsIssued$Office" "worn" "I", Cond.fieldLink RX4 223 "GritIsIssued" "rowCount" "I", Cond.fieldLink RX4 32 "GritIsIssued" "text" "LGritIsIssued$Text;", Cond.fieldLink RX4 53 "GritIsIssued$Text" "count" "I", Cond.methodLink RX4 209 yX1_allHas, Cond.instanceMethod yX1_allHas, Cond.selects RX1 yX1_allHas yX1_allHas, Cond.initialized RX1, Cond.code yX1_allHas cX1_allHas 3 (some .int), Cond.fieldLink RX1 22 "GritIsIssued$Office" "people" "I", Cond.fieldLink RX1 56 "GritIsIssued$Person" "has" "I", Cond.methodLink RX1 35 yX1_at, Cond.instanceMethod yX1_at, Cond.selects RX1 yX1_at yX1_at, Cond.code yX1_at cX1_at 2 (some (.object "GritIsIssued$Person")), Cond.fieldLink RX1 11 "GritIsIssued$Office" "room" "[LGritIsIssued$Person;", Cond.fieldLink RX1 18 "GritIsIssued$Office" "nobody" "LGritIsIssued$Person;", Cond.methodLink RX4 236 yX1_allWithMatter, Cond.instanceMethod yX1_allWithMatter]
def wsX4_count_r2 : List Cond := [Cond.selects RX1 yX1_allWithMatter yX1_allWithMatter, Cond.code yX1_allWithMatter cX1_allWithMatter 3 (some .int), Cond.fieldLink RX1 49 "GritIsIssued$Person" "due" "I"]
def wsX4_count : List Cond := .code yX4_count cX4_count 3 (some .int) :: ((wsX4_count_r1 ++ wsX4_count_r2) ++ wsX40 ++ wsX10 ++ wsX30 ++ wsX20)
def wsX5_init : List Cond := .code yX5_init cX5_init 1 none :: ([.methodLink RX5 1 objectInit, .instanceMethod objectInit, .code objectInit ⟨#[0xb1]⟩ 1 none, .arrayClass .int, .fieldLink RX5 9 "GritIsIssuedModel" "s" "[I", .fieldLink RX5 13 "GritIsIssuedModel" "m" "[I", .fieldLink RX5 16 "GritIsIssuedModel" "image" "[I", .fieldLink RX5 19 "GritIsIssuedModel" "was" "[I", .fieldLink RX5 22 "GritIsIssuedModel" "letters" "[I", .fieldLink RX5 25 "GritIsIssuedModel" "row" "[I", .fieldLink RX5 28 "GritIsIssuedModel" "refused" "[I", .fieldLink RX5 31 "GritIsIssuedModel" "numbers" "[I"] ++ wsX50)
def wsX5_isIn : List Cond := .code yX5_isIn cX5_isIn 3 (some .boolean) :: ([])
def wsX5_least : List Cond := .code yX5_least cX5_least 2 (some .int) :: ([])
def wsX5_copies : List Cond := .code yX5_copies cX5_copies 3 none :: ([])
def wsX5_no : List Cond := .code yX5_no cX5_no 2 (some .int) :: ([.fieldLink RX5 28 "GritIsIssuedModel" "refused" "[I"] ++ wsX50)
def wsX5_noFar : List Cond := .code yX5_noFar cX5_noFar 2 (some .int) :: ([.constant RX5 34 (1000000000), .methodLink RX5 35 yX5_no, .instanceMethod yX5_no, .selects RX5 yX5_no yX5_no, .initialized RX5, .code yX5_no cX5_no 2 (some .int), .fieldLink RX5 28 "GritIsIssuedModel" "refused" "[I"] ++ wsX50)
def wsX5_noWide : List Cond := .code yX5_noWide cX5_noWide 2 (some .long) :: ([.constantLong RX5 39 (4000000000000000000), .methodLink RX5 35 yX5_no, .instanceMethod yX5_no, .selects RX5 yX5_no yX5_no, .initialized RX5, .code yX5_no cX5_no 2 (some .int), .fieldLink RX5 28 "GritIsIssuedModel" "refused" "[I"] ++ wsX50)
def wsX5_of : List Cond := .code yX5_of cX5_of 2 (some .int) :: ([])
def wsX5_isOne : List Cond := .code yX5_isOne cX5_isOne 2 (some .boolean) :: ([.fieldLink RX5 9 "GritIsIssuedModel" "s" "[I", .methodLink RX5 41 yX5_isIn, .static yX5_isIn, .initialized RX5, .code yX5_isIn cX5_isIn 3 (some .boolean)] ++ wsX50)
def wsX5_has : List Cond := .code yX5_has cX5_has 2 (some .boolean) :: ([])
def wsX5_bits : List Cond := .code yX5_bits cX5_bits 3 (some .int) :: ([])
def wsX5_needs : List Cond := .code yX5_needs cX5_needs 3 (some .int) :: ([.methodLink RX5 45 yX5_of, .static yX5_of, .initialized RX5, .code yX5_of cX5_of 2 (some .int)])
def wsX5_wears : List Cond := .code yX5_wears cX5_wears 2 (some .int) :: ([.methodLink RX5 45 yX5_of, .static yX5_of, .initialized RX5, .code yX5_of cX5_of 2 (some .int), .methodLink RX5 49 yX5_needs, .static yX5_needs, .code yX5_needs cX5_needs 3 (some .int)])
def wsX5_nextBy : List Cond := .code yX5_nextBy cX5_nextBy 1 (some .int) :: ([])
def wsX5_lacksIn : List Cond := .code yX5_lacksIn cX5_lacksIn 3 (some .int) :: ([.methodLink RX5 49 yX5_needs, .static yX5_needs, .initialized RX5, .code yX5_needs cX5_needs 3 (some .int), .methodLink RX5 45 yX5_of, .static yX5_of, .code yX5_of cX5_of 2 (some .int)])
def wsX5_isGone : List Cond := .code yX5_isGone cX5_isGone 2 none :: ([.methodLink RX5 53 yX5_least, .static yX5_least, .initialized RX5, .code yX5_least cX5_least 2 (some .int)])
def wsX5_meets : List Cond := .code yX5_meets cX5_meets 5 none :: ([.methodLink RX5 45 yX5_of, .static yX5_of, .initialized RX5, .code yX5_of cX5_of 2 (some .int), .methodLink RX5 49 yX5_needs, .static yX5_needs, .code yX5_needs cX5_needs 3 (some .int), .methodLink RX5 53 yX5_least, .static yX5_least, .code yX5_least cX5_least 2 (some .int), .methodLink RX5 56 yX5_wears, .static yX5_wears, .code yX5_wears cX5_wears 2 (some .int), .methodLink RX5 59 yX5_isGone, .static yX5_isGone, .code yX5_isGone cX5_isGone 2 none, .methodLink RX5 63 yX5_nextBy, .static yX5_nextBy, .code yX5_nextBy cX5_nextBy 1 (some .int)])
def wsX5_day : List Cond := .code yX5_day cX5_day 2 none :: ([.methodLink RX5 45 yX5_of, .static yX5_of, .initialized RX5, .code yX5_of cX5_of 2 (some .int), .methodLink RX5 66 yX5_meets, .static yX5_meets, .code yX5_meets cX5_meets 5 none, .methodLink RX5 49 yX5_needs, .static yX5_needs, .code yX5_needs cX5_needs 3 (some .int), .methodLink RX5 53 yX5_least, .static yX5_least, .code yX5_least cX5_least 2 (some .int), .methodLink RX5 56 yX5_wears, .static yX5_wears, .code yX5_wears cX5_wears 2 (some .int), .methodLink RX5 59 yX5_isGone, .static yX5_isGone, .code yX5_isGone cX5_isGone 2 none, .methodLink RX5 63 yX5_nextBy, .static yX5_nextBy, .code yX5_nextBy cX5_nextBy 1 (some .int)])
def wsX5_daysOn_r1 : List Cond := [Cond.methodLink RX5 69 yX5_day, Cond.static yX5_day, Cond.initialized RX5, Cond.code yX5_day cX5_day 2 none, Cond.methodLink RX5 45 yX5_of, Cond.static yX5_of, Cond.code yX5_of cX5_of 2 (some .int), Cond.methodLink RX5 66 yX5_meets, Cond.static yX5_meets, Cond.code yX5_meets cX5_meets 5 none, Cond.methodLink RX5 49 yX5_needs, Cond.static yX5_needs, Cond.code yX5_needs cX5_needs 3 (some .int), Cond.methodLink RX5 53 yX5_least, Cond.static yX5_least, Cond.code yX5_least cX5_least 2 (some .int), Cond.methodLink RX5 56 yX5_wears, Cond.static yX5_wears, Cond.code yX5_wears cX5_wears 2 (some .int), Cond.methodLink RX5 59 yX5_isGone, Cond.static yX5_isGone, Cond.code yX5_isGone cX5_isGone 2 none, Cond.methodLink RX5 63 yX5_nextBy, Cond.static yX5_nextBy]
def wsX5_daysOn_r2 : List Cond := [Cond.code yX5_nextBy cX5_nextBy 1 (some .int)]
def wsX5_daysOn : List Cond := .code yX5_daysOn cX5_daysOn 3 none :: ((wsX5_daysOn_r1 ++ wsX5_daysOn_r2))
def wsX5_allOf : List Cond := .code yX5_allOf cX5_allOf 4 (some .int) :: ([.methodLink RX5 45 yX5_of, .static yX5_of, .initialized RX5, .code yX5_of cX5_of 2 (some .int)])
def wsX5_issuesIn : List Cond := .code yX5_issuesIn cX5_issuesIn 3 none :: ([.methodLink RX5 45 yX5_of, .static yX5_of, .initialized RX5, .code yX5_of cX5_of 2 (some .int)])
def wsX5_handsIn : List Cond := .code yX5_handsIn cX5_handsIn 3 none :: ([.methodLink RX5 45 yX5_of, .static yX5_of, .initialized RX5, .code yX5_of cX5_of 2 (some .int), .methodLink RX5 53 yX5_least, .static yX5_least, .code yX5_least cX5_least 2 (some .int), .methodLink RX5 59 yX5_isGone, .static yX5_isGone, .code yX5_isGone cX5_isGone 2 none])
def wsX5_throughBehind_r1 : List Cond := [Cond.fieldLink RX5 13 "GritIsIssuedModel" "m" "[I", Cond.fieldLink RX5 9 "GritIsIssuedModel" "s" "[I", Cond.methodLink RX5 73 yX5_daysOn, Cond.static yX5_daysOn, Cond.initialized RX5, Cond.code yX5_daysOn cX5_daysOn 3 none, Cond.methodLink RX5 69 yX5_day, Cond.static yX5_day, Cond.code yX5_day cX5_day 2 none, Cond.methodLink RX5 45 yX5_of, Cond.static yX5_of, Cond.code yX5_of cX5_of 2 (some .int), Cond.methodLink RX5 66 yX5_meets, Cond.static yX5_meets, Cond.code yX5_meets cX5_meets 5 none, Cond.methodLink RX5 49 yX5_needs, Cond.static yX5_needs, Cond.code yX5_needs cX5_needs 3 (some .int), Cond.methodLink RX5 53 yX5_least, Cond.static yX5_least, Cond.code yX5_least cX5_least 2 (some .int), Cond.methodLink RX5 56 yX5_wears, Cond.static yX5_wears, Cond.code yX5_wears cX5_wears 2 (some .int)]
def wsX5_throughBehind_r2 : List Cond := [Cond.methodLink RX5 59 yX5_isGone, Cond.static yX5_isGone, Cond.code yX5_isGone cX5_isGone 2 none, Cond.methodLink RX5 63 yX5_nextBy, Cond.static yX5_nextBy, Cond.code yX5_nextBy cX5_nextBy 1 (some .int), Cond.methodLink RX5 76 yX5_allOf, Cond.static yX5_allOf, Cond.code yX5_allOf cX5_allOf 4 (some .int)]
def wsX5_throughBehind : List Cond := .code yX5_throughBehind cX5_throughBehind 2 (some .int) :: ((wsX5_throughBehind_r1 ++ wsX5_throughBehind_r2) ++ wsX50)
def wsX5_letter : List Cond := .code yX5_letter cX5_letter 2 (some .int) :: ([.fieldLink RX5 79 "GritIsIssuedModel" "letterMany" "I", .fieldLink RX5 22 "GritIsIssuedModel" "letters" "[I", .methodLink RX5 35 yX5_no, .instanceMethod yX5_no, .selects RX5 yX5_no yX5_no, .initialized RX5, .code yX5_no cX5_no 2 (some .int), .fieldLink RX5 28 "GritIsIssuedModel" "refused" "[I"] ++ wsX50)
def wsX5_here : List Cond := .code yX5_here cX5_here 1 (some .int) :: ([.fieldLink RX5 83 "GritIsIssuedModel" "place" "I", .fieldLink RX5 79 "GritIsIssuedModel" "letterMany" "I", .fieldLink RX5 22 "GritIsIssuedModel" "letters" "[I"] ++ wsX50)
def wsX5_readsNumber : List Cond := .code yX5_readsNumber cX5_readsNumber 4 (some .boolean) :: ([.fieldLink RX5 31 "GritIsIssuedModel" "numbers" "[I", .fieldLink RX5 83 "GritIsIssuedModel" "place" "I", .methodLink RX5 86 yX5_here, .instanceMethod yX5_here, .selects RX5 yX5_here yX5_here, .initialized RX5, .code yX5_here cX5_here 1 (some .int), .fieldLink RX5 79 "GritIsIssuedModel" "letterMany" "I", .fieldLink RX5 22 "GritIsIssuedModel" "letters" "[I", .methodLink RX5 41 yX5_isIn, .static yX5_isIn, .code yX5_isIn cX5_isIn 3 (some .boolean)] ++ wsX50)
def wsX5_kindBy : List Cond := .code yX5_kindBy cX5_kindBy 1 (some .int) :: ([])
def wsX5_readsKind : List Cond := .code yX5_readsKind cX5_readsKind 1 (some .boolean) :: ([.fieldLink RX5 31 "GritIsIssuedModel" "numbers" "[I", .fieldLink RX5 83 "GritIsIssuedModel" "place" "I", .methodLink RX5 86 yX5_here, .instanceMethod yX5_here, .selects RX5 yX5_here yX5_here, .initialized RX5, .code yX5_here cX5_here 1 (some .int), .fieldLink RX5 79 "GritIsIssuedModel" "letterMany" "I", .fieldLink RX5 22 "GritIsIssuedModel" "letters" "[I", .methodLink RX5 90 yX5_kindBy, .static yX5_kindBy, .code yX5_kindBy cX5_kindBy 1 (some .int)] ++ wsX50)
def wsX5_readsStatement : List Cond := .code yX5_readsStatement cX5_readsStatement 3 (some .boolean) :: ([.fieldLink RX5 83 "GritIsIssuedModel" "place" "I", .methodLink RX5 86 yX5_here, .instanceMethod yX5_here, .selects RX5 yX5_here yX5_here, .initialized RX5, .code yX5_here cX5_here 1 (some .int), .fieldLink RX5 79 "GritIsIssuedModel" "letterMany" "I", .fieldLink RX5 22 "GritIsIssuedModel" "letters" "[I", .methodLink RX5 93 yX5_readsKind, .instanceMethod yX5_readsKind, .selects RX5 yX5_readsKind yX5_readsKind, .code yX5_readsKind cX5_readsKind 1 (some .boolean), .fieldLink RX5 31 "GritIsIssuedModel" "numbers" "[I", .methodLink RX5 90 yX5_kindBy, .static yX5_kindBy, .code yX5_kindBy cX5_kindBy 1 (some .int), .methodLink RX5 97 yX5_readsNumber, .instanceMethod yX5_readsNumber, .selects RX5 yX5_readsNumber yX5_readsNumber, .code yX5_readsNumber cX5_readsNumber 4 (some .boolean), .methodLink RX5 41 yX5_isIn, .static yX5_isIn, .code yX5_isIn cX5_isIn 3 (some .boolean)] ++ wsX50)
def wsX5_adds : List Cond := .code yX5_adds cX5_adds 6 (some .boolean) :: ([.fieldLink RX5 9 "GritIsIssuedModel" "s" "[I", .methodLink RX5 45 yX5_of, .static yX5_of, .initialized RX5, .code yX5_of cX5_of 2 (some .int)] ++ wsX50)
def wsX5_isDone_r1 : List Cond := [Cond.fieldLink RX5 31 "GritIsIssuedModel" "numbers" "[I", Cond.fieldLink RX5 9 "GritIsIssuedModel" "s" "[I", Cond.methodLink RX5 101 yX5_adds, Cond.instanceMethod yX5_adds, Cond.selects RX5 yX5_adds yX5_adds, Cond.initialized RX5, Cond.code yX5_adds cX5_adds 6 (some .boolean), Cond.methodLink RX5 45 yX5_of, Cond.static yX5_of, Cond.code yX5_of cX5_of 2 (some .int), Cond.methodLink RX5 104 yX5_isOne, Cond.instanceMethod yX5_isOne, Cond.selects RX5 yX5_isOne yX5_isOne, Cond.code yX5_isOne cX5_isOne 2 (some .boolean), Cond.methodLink RX5 41 yX5_isIn, Cond.static yX5_isIn, Cond.code yX5_isIn cX5_isIn 3 (some .boolean), Cond.methodLink RX5 108 yX5_issuesIn, Cond.static yX5_issuesIn, Cond.code yX5_issuesIn cX5_issuesIn 3 none, Cond.methodLink RX5 112 yX5_handsIn, Cond.static yX5_handsIn, Cond.code yX5_handsIn cX5_handsIn 3 none, Cond.methodLink RX5 53 yX5_least]
def wsX5_isDone_r2 : List Cond := [Cond.static yX5_least, Cond.code yX5_least cX5_least 2 (some .int), Cond.methodLink RX5 59 yX5_isGone, Cond.static yX5_isGone, Cond.code yX5_isGone cX5_isGone 2 none, Cond.methodLink RX5 73 yX5_daysOn, Cond.static yX5_daysOn, Cond.code yX5_daysOn cX5_daysOn 3 none, Cond.methodLink RX5 69 yX5_day, Cond.static yX5_day, Cond.code yX5_day cX5_day 2 none, Cond.methodLink RX5 66 yX5_meets, Cond.static yX5_meets, Cond.code yX5_meets cX5_meets 5 none, Cond.methodLink RX5 49 yX5_needs, Cond.static yX5_needs, Cond.code yX5_needs cX5_needs 3 (some .int), Cond.methodLink RX5 56 yX5_wears, Cond.static yX5_wears, Cond.code yX5_wears cX5_wears 2 (some .int), Cond.methodLink RX5 63 yX5_nextBy, Cond.static yX5_nextBy, Cond.code yX5_nextBy cX5_nextBy 1 (some .int)]
def wsX5_isDone : List Cond := .code yX5_isDone cX5_isDone 4 (some .boolean) :: ((wsX5_isDone_r1 ++ wsX5_isDone_r2) ++ wsX50)
def wsX5_counter_r1 : List Cond := [Cond.fieldLink RX5 83 "GritIsIssuedModel" "place" "I", Cond.fieldLink RX5 79 "GritIsIssuedModel" "letterMany" "I", Cond.fieldLink RX5 9 "GritIsIssuedModel" "s" "[I", Cond.fieldLink RX5 19 "GritIsIssuedModel" "was" "[I", Cond.methodLink RX5 115 yX5_readsStatement, Cond.instanceMethod yX5_readsStatement, Cond.selects RX5 yX5_readsStatement yX5_readsStatement, Cond.initialized RX5, Cond.code yX5_readsStatement cX5_readsStatement 3 (some .boolean), Cond.methodLink RX5 86 yX5_here, Cond.instanceMethod yX5_here, Cond.selects RX5 yX5_here yX5_here, Cond.code yX5_here cX5_here 1 (some .int), Cond.fieldLink RX5 22 "GritIsIssuedModel" "letters" "[I", Cond.methodLink RX5 93 yX5_readsKind, Cond.instanceMethod yX5_readsKind, Cond.selects RX5 yX5_readsKind yX5_readsKind, Cond.code yX5_readsKind cX5_readsKind 1 (some .boolean), Cond.fieldLink RX5 31 "GritIsIssuedModel" "numbers" "[I", Cond.methodLink RX5 90 yX5_kindBy, Cond.static yX5_kindBy, Cond.code yX5_kindBy cX5_kindBy 1 (some .int), Cond.methodLink RX5 97 yX5_readsNumber, Cond.instanceMethod yX5_readsNumber]
def wsX5_counter_r2 : List Cond := [Cond.selects RX5 yX5_readsNumber yX5_readsNumber, Cond.code yX5_readsNumber cX5_readsNumber 4 (some .boolean), Cond.methodLink RX5 41 yX5_isIn, Cond.static yX5_isIn, Cond.code yX5_isIn cX5_isIn 3 (some .boolean), Cond.methodLink RX5 118 yX5_copies, Cond.static yX5_copies, Cond.code yX5_copies cX5_copies 3 none, Cond.methodLink RX5 122 yX5_isDone, Cond.instanceMethod yX5_isDone, Cond.selects RX5 yX5_isDone yX5_isDone, Cond.code yX5_isDone cX5_isDone 4 (some .boolean), Cond.methodLink RX5 101 yX5_adds, Cond.instanceMethod yX5_adds, Cond.selects RX5 yX5_adds yX5_adds, Cond.code yX5_adds cX5_adds 6 (some .boolean), Cond.methodLink RX5 45 yX5_of, Cond.static yX5_of, Cond.code yX5_of cX5_of 2 (some .int), Cond.methodLink RX5 104 yX5_isOne, Cond.instanceMethod yX5_isOne, Cond.selects RX5 yX5_isOne yX5_isOne, Cond.code yX5_isOne cX5_isOne 2 (some .boolean), Cond.methodLink RX5 108 yX5_issuesIn]
def wsX5_counter_r3 : List Cond := [Cond.static yX5_issuesIn, Cond.code yX5_issuesIn cX5_issuesIn 3 none, Cond.methodLink RX5 112 yX5_handsIn, Cond.static yX5_handsIn, Cond.code yX5_handsIn cX5_handsIn 3 none, Cond.methodLink RX5 53 yX5_least, Cond.static yX5_least, Cond.code yX5_least cX5_least 2 (some .int), Cond.methodLink RX5 59 yX5_isGone, Cond.static yX5_isGone, Cond.code yX5_isGone cX5_isGone 2 none, Cond.methodLink RX5 73 yX5_daysOn, Cond.static yX5_daysOn, Cond.code yX5_daysOn cX5_daysOn 3 none, Cond.methodLink RX5 69 yX5_day, Cond.static yX5_day, Cond.code yX5_day cX5_day 2 none, Cond.methodLink RX5 66 yX5_meets, Cond.static yX5_meets, Cond.code yX5_meets cX5_meets 5 none, Cond.methodLink RX5 49 yX5_needs, Cond.static yX5_needs, Cond.code yX5_needs cX5_needs 3 (some .int), Cond.methodLink RX5 56 yX5_wears]
def wsX5_counter_r4 : List Cond := [Cond.static yX5_wears, Cond.code yX5_wears cX5_wears 2 (some .int), Cond.methodLink RX5 63 yX5_nextBy, Cond.static yX5_nextBy, Cond.code yX5_nextBy cX5_nextBy 1 (some .int)]
def wsX5_counter : List Cond := .code yX5_counter cX5_counter 6 (some .int) :: ((wsX5_counter_r1 ++ (wsX5_counter_r2 ++ (wsX5_counter_r3 ++ wsX5_counter_r4))) ++ wsX50)
def wsX5_person : List Cond := .code yX5_person cX5_person 3 (some .int) :: ([.fieldLink RX5 9 "GritIsIssuedModel" "s" "[I", .methodLink RX5 104 yX5_isOne, .instanceMethod yX5_isOne, .selects RX5 yX5_isOne yX5_isOne, .initialized RX5, .code yX5_isOne cX5_isOne 2 (some .boolean), .methodLink RX5 41 yX5_isIn, .static yX5_isIn, .code yX5_isIn cX5_isIn 3 (some .boolean), .methodLink RX5 35 yX5_no, .instanceMethod yX5_no, .selects RX5 yX5_no yX5_no, .code yX5_no cX5_no 2 (some .int), .fieldLink RX5 28 "GritIsIssuedModel" "refused" "[I", .methodLink RX5 45 yX5_of, .static yX5_of, .code yX5_of cX5_of 2 (some .int), .methodLink RX5 49 yX5_needs, .static yX5_needs, .code yX5_needs cX5_needs 3 (some .int), .methodLink RX5 125 yX5_lacksIn, .static yX5_lacksIn, .code yX5_lacksIn cX5_lacksIn 3 (some .int)] ++ wsX50)
def wsX5_wrongBy : List Cond := .code yX5_wrongBy cX5_wrongBy 3 (some .int) :: ([])
def wsX5_issues : List Cond := .code yX5_issues cX5_issues 4 (some .int) :: ([.fieldLink RX5 9 "GritIsIssuedModel" "s" "[I", .methodLink RX5 104 yX5_isOne, .instanceMethod yX5_isOne, .selects RX5 yX5_isOne yX5_isOne, .initialized RX5, .code yX5_isOne cX5_isOne 2 (some .boolean), .methodLink RX5 41 yX5_isIn, .static yX5_isIn, .code yX5_isIn cX5_isIn 3 (some .boolean), .methodLink RX5 128 yX5_wrongBy, .static yX5_wrongBy, .code yX5_wrongBy cX5_wrongBy 3 (some .int), .methodLink RX5 45 yX5_of, .static yX5_of, .code yX5_of cX5_of 2 (some .int), .methodLink RX5 35 yX5_no, .instanceMethod yX5_no, .selects RX5 yX5_no yX5_no, .code yX5_no cX5_no 2 (some .int), .fieldLink RX5 28 "GritIsIssuedModel" "refused" "[I", .methodLink RX5 108 yX5_issuesIn, .static yX5_issuesIn, .code yX5_issuesIn cX5_issuesIn 3 none] ++ wsX50)
def wsX5_returns_r1 : List Cond := [Cond.fieldLink RX5 9 "GritIsIssuedModel" "s" "[I", Cond.methodLink RX5 104 yX5_isOne, Cond.instanceMethod yX5_isOne, Cond.selects RX5 yX5_isOne yX5_isOne, Cond.initialized RX5, Cond.code yX5_isOne cX5_isOne 2 (some .boolean), Cond.methodLink RX5 41 yX5_isIn, Cond.static yX5_isIn, Cond.code yX5_isIn cX5_isIn 3 (some .boolean), Cond.methodLink RX5 35 yX5_no, Cond.instanceMethod yX5_no, Cond.selects RX5 yX5_no yX5_no, Cond.code yX5_no cX5_no 2 (some .int), Cond.fieldLink RX5 28 "GritIsIssuedModel" "refused" "[I", Cond.methodLink RX5 45 yX5_of, Cond.static yX5_of, Cond.code yX5_of cX5_of 2 (some .int), Cond.methodLink RX5 112 yX5_handsIn, Cond.static yX5_handsIn, Cond.code yX5_handsIn cX5_handsIn 3 none, Cond.methodLink RX5 53 yX5_least, Cond.static yX5_least, Cond.code yX5_least cX5_least 2 (some .int), Cond.methodLink RX5 59 yX5_isGone]
def wsX5_returns_r2 : List Cond := [Cond.static yX5_isGone, Cond.code yX5_isGone cX5_isGone 2 none]
def wsX5_returns : List Cond := .code yX5_returns cX5_returns 2 (some .int) :: ((wsX5_returns_r1 ++ wsX5_returns_r2) ++ wsX50)
def wsX5_due : List Cond := .code yX5_due cX5_due 5 (some .int) :: ([.fieldLink RX5 9 "GritIsIssuedModel" "s" "[I", .methodLink RX5 104 yX5_isOne, .instanceMethod yX5_isOne, .selects RX5 yX5_isOne yX5_isOne, .initialized RX5, .code yX5_isOne cX5_isOne 2 (some .boolean), .methodLink RX5 41 yX5_isIn, .static yX5_isIn, .code yX5_isIn cX5_isIn 3 (some .boolean), .methodLink RX5 128 yX5_wrongBy, .static yX5_wrongBy, .code yX5_wrongBy cX5_wrongBy 3 (some .int), .methodLink RX5 35 yX5_no, .instanceMethod yX5_no, .selects RX5 yX5_no yX5_no, .code yX5_no cX5_no 2 (some .int), .fieldLink RX5 28 "GritIsIssuedModel" "refused" "[I", .methodLink RX5 45 yX5_of, .static yX5_of, .code yX5_of cX5_of 2 (some .int)] ++ wsX50)
def wsX5_fills : List Cond := .code yX5_fills cX5_fills 3 (some .int) :: ([.fieldLink RX5 9 "GritIsIssuedModel" "s" "[I", .methodLink RX5 128 yX5_wrongBy, .static yX5_wrongBy, .initialized RX5, .code yX5_wrongBy cX5_wrongBy 3 (some .int), .methodLink RX5 35 yX5_no, .instanceMethod yX5_no, .selects RX5 yX5_no yX5_no, .code yX5_no cX5_no 2 (some .int), .fieldLink RX5 28 "GritIsIssuedModel" "refused" "[I"] ++ wsX50)
def wsX5_turn : List Cond := .code yX5_turn cX5_turn 6 (some .int) :: ([.fieldLink RX5 9 "GritIsIssuedModel" "s" "[I", .methodLink RX5 104 yX5_isOne, .instanceMethod yX5_isOne, .selects RX5 yX5_isOne yX5_isOne, .initialized RX5, .code yX5_isOne cX5_isOne 2 (some .boolean), .methodLink RX5 41 yX5_isIn, .static yX5_isIn, .code yX5_isIn cX5_isIn 3 (some .boolean), .methodLink RX5 128 yX5_wrongBy, .static yX5_wrongBy, .code yX5_wrongBy cX5_wrongBy 3 (some .int), .methodLink RX5 35 yX5_no, .instanceMethod yX5_no, .selects RX5 yX5_no yX5_no, .code yX5_no cX5_no 2 (some .int), .fieldLink RX5 28 "GritIsIssuedModel" "refused" "[I", .methodLink RX5 45 yX5_of, .static yX5_of, .code yX5_of cX5_of 2 (some .int)] ++ wsX50)
def wsX5_days_r1 : List Cond := [Cond.fieldLink RX5 9 "GritIsIssuedModel" "s" "[I", Cond.methodLink RX5 35 yX5_no, Cond.instanceMethod yX5_no, Cond.selects RX5 yX5_no yX5_no, Cond.initialized RX5, Cond.code yX5_no cX5_no 2 (some .int), Cond.fieldLink RX5 28 "GritIsIssuedModel" "refused" "[I", Cond.methodLink RX5 76 yX5_allOf, Cond.static yX5_allOf, Cond.code yX5_allOf cX5_allOf 4 (some .int), Cond.methodLink RX5 45 yX5_of, Cond.static yX5_of, Cond.code yX5_of cX5_of 2 (some .int), Cond.methodLink RX5 73 yX5_daysOn, Cond.static yX5_daysOn, Cond.code yX5_daysOn cX5_daysOn 3 none, Cond.methodLink RX5 69 yX5_day, Cond.static yX5_day, Cond.code yX5_day cX5_day 2 none, Cond.methodLink RX5 66 yX5_meets, Cond.static yX5_meets, Cond.code yX5_meets cX5_meets 5 none, Cond.methodLink RX5 49 yX5_needs, Cond.static yX5_needs]
def wsX5_days_r2 : List Cond := [Cond.code yX5_needs cX5_needs 3 (some .int), Cond.methodLink RX5 53 yX5_least, Cond.static yX5_least, Cond.code yX5_least cX5_least 2 (some .int), Cond.methodLink RX5 56 yX5_wears, Cond.static yX5_wears, Cond.code yX5_wears cX5_wears 2 (some .int), Cond.methodLink RX5 59 yX5_isGone, Cond.static yX5_isGone, Cond.code yX5_isGone cX5_isGone 2 none, Cond.methodLink RX5 63 yX5_nextBy, Cond.static yX5_nextBy, Cond.code yX5_nextBy cX5_nextBy 1 (some .int)]
def wsX5_days : List Cond := .code yX5_days cX5_days 3 (some .int) :: ((wsX5_days_r1 ++ wsX5_days_r2) ++ wsX50)
def wsX5_takes_r1 : List Cond := [Cond.fieldLink RX5 9 "GritIsIssuedModel" "s" "[I", Cond.fieldLink RX5 13 "GritIsIssuedModel" "m" "[I", Cond.methodLink RX5 118 yX5_copies, Cond.static yX5_copies, Cond.initialized RX5, Cond.code yX5_copies cX5_copies 3 none, Cond.methodLink RX5 73 yX5_daysOn, Cond.static yX5_daysOn, Cond.code yX5_daysOn cX5_daysOn 3 none, Cond.methodLink RX5 69 yX5_day, Cond.static yX5_day, Cond.code yX5_day cX5_day 2 none, Cond.methodLink RX5 45 yX5_of, Cond.static yX5_of, Cond.code yX5_of cX5_of 2 (some .int), Cond.methodLink RX5 66 yX5_meets, Cond.static yX5_meets, Cond.code yX5_meets cX5_meets 5 none, Cond.methodLink RX5 49 yX5_needs, Cond.static yX5_needs, Cond.code yX5_needs cX5_needs 3 (some .int), Cond.methodLink RX5 53 yX5_least, Cond.static yX5_least, Cond.code yX5_least cX5_least 2 (some .int)]
def wsX5_takes_r2 : List Cond := [Cond.methodLink RX5 56 yX5_wears, Cond.static yX5_wears, Cond.code yX5_wears cX5_wears 2 (some .int), Cond.methodLink RX5 59 yX5_isGone, Cond.static yX5_isGone, Cond.code yX5_isGone cX5_isGone 2 none, Cond.methodLink RX5 63 yX5_nextBy, Cond.static yX5_nextBy, Cond.code yX5_nextBy cX5_nextBy 1 (some .int)]
def wsX5_takes : List Cond := .code yX5_takes cX5_takes 2 none :: ((wsX5_takes_r1 ++ wsX5_takes_r2) ++ wsX50)
def wsX5_personThen_r1 : List Cond := [Cond.fieldLink RX5 13 "GritIsIssuedModel" "m" "[I", Cond.fieldLink RX5 9 "GritIsIssuedModel" "s" "[I", Cond.methodLink RX5 104 yX5_isOne, Cond.instanceMethod yX5_isOne, Cond.selects RX5 yX5_isOne yX5_isOne, Cond.initialized RX5, Cond.code yX5_isOne cX5_isOne 2 (some .boolean), Cond.methodLink RX5 41 yX5_isIn, Cond.static yX5_isIn, Cond.code yX5_isIn cX5_isIn 3 (some .boolean), Cond.methodLink RX5 128 yX5_wrongBy, Cond.static yX5_wrongBy, Cond.code yX5_wrongBy cX5_wrongBy 3 (some .int), Cond.methodLink RX5 35 yX5_no, Cond.instanceMethod yX5_no, Cond.selects RX5 yX5_no yX5_no, Cond.code yX5_no cX5_no 2 (some .int), Cond.fieldLink RX5 28 "GritIsIssuedModel" "refused" "[I", Cond.methodLink RX5 132 yX5_takes, Cond.instanceMethod yX5_takes, Cond.selects RX5 yX5_takes yX5_takes, Cond.code yX5_takes cX5_takes 2 none, Cond.methodLink RX5 118 yX5_copies, Cond.static yX5_copies]
def wsX5_personThen_r2 : List Cond := [Cond.code yX5_copies cX5_copies 3 none, Cond.methodLink RX5 73 yX5_daysOn, Cond.static yX5_daysOn, Cond.code yX5_daysOn cX5_daysOn 3 none, Cond.methodLink RX5 69 yX5_day, Cond.static yX5_day, Cond.code yX5_day cX5_day 2 none, Cond.methodLink RX5 45 yX5_of, Cond.static yX5_of, Cond.code yX5_of cX5_of 2 (some .int), Cond.methodLink RX5 66 yX5_meets, Cond.static yX5_meets, Cond.code yX5_meets cX5_meets 5 none, Cond.methodLink RX5 49 yX5_needs, Cond.static yX5_needs, Cond.code yX5_needs cX5_needs 3 (some .int), Cond.methodLink RX5 53 yX5_least, Cond.static yX5_least, Cond.code yX5_least cX5_least 2 (some .int), Cond.methodLink RX5 56 yX5_wears, Cond.static yX5_wears, Cond.code yX5_wears cX5_wears 2 (some .int), Cond.methodLink RX5 59 yX5_isGone, Cond.static yX5_isGone]
def wsX5_personThen_r3 : List Cond := [Cond.code yX5_isGone cX5_isGone 2 none, Cond.methodLink RX5 63 yX5_nextBy, Cond.static yX5_nextBy, Cond.code yX5_nextBy cX5_nextBy 1 (some .int)]
def wsX5_personThen : List Cond := .code yX5_personThen cX5_personThen 5 (some .int) :: ((wsX5_personThen_r1 ++ (wsX5_personThen_r2 ++ wsX5_personThen_r3)) ++ wsX50)
def wsX5_allThen_r1 : List Cond := [Cond.fieldLink RX5 13 "GritIsIssuedModel" "m" "[I", Cond.methodLink RX5 128 yX5_wrongBy, Cond.static yX5_wrongBy, Cond.initialized RX5, Cond.code yX5_wrongBy cX5_wrongBy 3 (some .int), Cond.methodLink RX5 41 yX5_isIn, Cond.static yX5_isIn, Cond.code yX5_isIn cX5_isIn 3 (some .boolean), Cond.methodLink RX5 35 yX5_no, Cond.instanceMethod yX5_no, Cond.selects RX5 yX5_no yX5_no, Cond.code yX5_no cX5_no 2 (some .int), Cond.fieldLink RX5 28 "GritIsIssuedModel" "refused" "[I", Cond.methodLink RX5 132 yX5_takes, Cond.instanceMethod yX5_takes, Cond.selects RX5 yX5_takes yX5_takes, Cond.code yX5_takes cX5_takes 2 none, Cond.fieldLink RX5 9 "GritIsIssuedModel" "s" "[I", Cond.methodLink RX5 118 yX5_copies, Cond.static yX5_copies, Cond.code yX5_copies cX5_copies 3 none, Cond.methodLink RX5 73 yX5_daysOn, Cond.static yX5_daysOn, Cond.code yX5_daysOn cX5_daysOn 3 none]
def wsX5_allThen_r2 : List Cond := [Cond.methodLink RX5 69 yX5_day, Cond.static yX5_day, Cond.code yX5_day cX5_day 2 none, Cond.methodLink RX5 45 yX5_of, Cond.static yX5_of, Cond.code yX5_of cX5_of 2 (some .int), Cond.methodLink RX5 66 yX5_meets, Cond.static yX5_meets, Cond.code yX5_meets cX5_meets 5 none, Cond.methodLink RX5 49 yX5_needs, Cond.static yX5_needs, Cond.code yX5_needs cX5_needs 3 (some .int), Cond.methodLink RX5 53 yX5_least, Cond.static yX5_least, Cond.code yX5_least cX5_least 2 (some .int), Cond.methodLink RX5 56 yX5_wears, Cond.static yX5_wears, Cond.code yX5_wears cX5_wears 2 (some .int), Cond.methodLink RX5 59 yX5_isGone, Cond.static yX5_isGone, Cond.code yX5_isGone cX5_isGone 2 none, Cond.methodLink RX5 63 yX5_nextBy, Cond.static yX5_nextBy, Cond.code yX5_nextBy cX5_nextBy 1 (some .int)]
def wsX5_allThen_r3 : List Cond := [Cond.methodLink RX5 76 yX5_allOf, Cond.static yX5_allOf, Cond.code yX5_allOf cX5_allOf 4 (some .int)]
def wsX5_allThen : List Cond := .code yX5_allThen cX5_allThen 4 (some .int) :: ((wsX5_allThen_r1 ++ (wsX5_allThen_r2 ++ wsX5_allThen_r3)) ++ wsX50)
def wsX5_isShortOn : List Cond := .code yX5_isShortOn cX5_isShortOn 2 (some .boolean) :: ([.fieldLink RX5 19 "GritIsIssuedModel" "was" "[I", .methodLink RX5 45 yX5_of, .static yX5_of, .initialized RX5, .code yX5_of cX5_of 2 (some .int), .methodLink RX5 49 yX5_needs, .static yX5_needs, .code yX5_needs cX5_needs 3 (some .int)] ++ wsX50)
def wsX5_first_r1 : List Cond := [Cond.fieldLink RX5 9 "GritIsIssuedModel" "s" "[I", Cond.fieldLink RX5 13 "GritIsIssuedModel" "m" "[I", Cond.fieldLink RX5 19 "GritIsIssuedModel" "was" "[I", Cond.methodLink RX5 41 yX5_isIn, Cond.static yX5_isIn, Cond.initialized RX5, Cond.code yX5_isIn cX5_isIn 3 (some .boolean), Cond.methodLink RX5 35 yX5_no, Cond.instanceMethod yX5_no, Cond.selects RX5 yX5_no yX5_no, Cond.code yX5_no cX5_no 2 (some .int), Cond.fieldLink RX5 28 "GritIsIssuedModel" "refused" "[I", Cond.methodLink RX5 118 yX5_copies, Cond.static yX5_copies, Cond.code yX5_copies cX5_copies 3 none, Cond.methodLink RX5 69 yX5_day, Cond.static yX5_day, Cond.code yX5_day cX5_day 2 none, Cond.methodLink RX5 45 yX5_of, Cond.static yX5_of, Cond.code yX5_of cX5_of 2 (some .int), Cond.methodLink RX5 66 yX5_meets, Cond.static yX5_meets, Cond.code yX5_meets cX5_meets 5 none]
def wsX5_first_r2 : List Cond := [Cond.methodLink RX5 49 yX5_needs, Cond.static yX5_needs, Cond.code yX5_needs cX5_needs 3 (some .int), Cond.methodLink RX5 53 yX5_least, Cond.static yX5_least, Cond.code yX5_least cX5_least 2 (some .int), Cond.methodLink RX5 56 yX5_wears, Cond.static yX5_wears, Cond.code yX5_wears cX5_wears 2 (some .int), Cond.methodLink RX5 59 yX5_isGone, Cond.static yX5_isGone, Cond.code yX5_isGone cX5_isGone 2 none, Cond.methodLink RX5 63 yX5_nextBy, Cond.static yX5_nextBy, Cond.code yX5_nextBy cX5_nextBy 1 (some .int), Cond.methodLink RX5 136 yX5_isShortOn, Cond.instanceMethod yX5_isShortOn, Cond.selects RX5 yX5_isShortOn yX5_isShortOn, Cond.code yX5_isShortOn cX5_isShortOn 2 (some .boolean)]
def wsX5_first : List Cond := .code yX5_first cX5_first 4 (some .int) :: ((wsX5_first_r1 ++ wsX5_first_r2) ++ wsX50)
def wsX5_isThroughOn : List Cond := .code yX5_isThroughOn cX5_isThroughOn 2 (some .boolean) :: ([.fieldLink RX5 19 "GritIsIssuedModel" "was" "[I", .methodLink RX5 45 yX5_of, .static yX5_of, .initialized RX5, .code yX5_of cX5_of 2 (some .int), .methodLink RX5 49 yX5_needs, .static yX5_needs, .code yX5_needs cX5_needs 3 (some .int)] ++ wsX50)
def wsX5_lasts_r1 : List Cond := [Cond.fieldLink RX5 9 "GritIsIssuedModel" "s" "[I", Cond.fieldLink RX5 13 "GritIsIssuedModel" "m" "[I", Cond.fieldLink RX5 19 "GritIsIssuedModel" "was" "[I", Cond.methodLink RX5 104 yX5_isOne, Cond.instanceMethod yX5_isOne, Cond.selects RX5 yX5_isOne yX5_isOne, Cond.initialized RX5, Cond.code yX5_isOne cX5_isOne 2 (some .boolean), Cond.methodLink RX5 41 yX5_isIn, Cond.static yX5_isIn, Cond.code yX5_isIn cX5_isIn 3 (some .boolean), Cond.methodLink RX5 35 yX5_no, Cond.instanceMethod yX5_no, Cond.selects RX5 yX5_no yX5_no, Cond.code yX5_no cX5_no 2 (some .int), Cond.fieldLink RX5 28 "GritIsIssuedModel" "refused" "[I", Cond.methodLink RX5 118 yX5_copies, Cond.static yX5_copies, Cond.code yX5_copies cX5_copies 3 none, Cond.methodLink RX5 69 yX5_day, Cond.static yX5_day, Cond.code yX5_day cX5_day 2 none, Cond.methodLink RX5 45 yX5_of, Cond.static yX5_of]
def wsX5_lasts_r2 : List Cond := [Cond.code yX5_of cX5_of 2 (some .int), Cond.methodLink RX5 66 yX5_meets, Cond.static yX5_meets, Cond.code yX5_meets cX5_meets 5 none, Cond.methodLink RX5 49 yX5_needs, Cond.static yX5_needs, Cond.code yX5_needs cX5_needs 3 (some .int), Cond.methodLink RX5 53 yX5_least, Cond.static yX5_least, Cond.code yX5_least cX5_least 2 (some .int), Cond.methodLink RX5 56 yX5_wears, Cond.static yX5_wears, Cond.code yX5_wears cX5_wears 2 (some .int), Cond.methodLink RX5 59 yX5_isGone, Cond.static yX5_isGone, Cond.code yX5_isGone cX5_isGone 2 none, Cond.methodLink RX5 63 yX5_nextBy, Cond.static yX5_nextBy, Cond.code yX5_nextBy cX5_nextBy 1 (some .int), Cond.methodLink RX5 136 yX5_isShortOn, Cond.instanceMethod yX5_isShortOn, Cond.selects RX5 yX5_isShortOn yX5_isShortOn, Cond.code yX5_isShortOn cX5_isShortOn 2 (some .boolean), Cond.methodLink RX5 139 yX5_isThroughOn]
def wsX5_lasts_r3 : List Cond := [Cond.instanceMethod yX5_isThroughOn, Cond.selects RX5 yX5_isThroughOn yX5_isThroughOn, Cond.code yX5_isThroughOn cX5_isThroughOn 2 (some .boolean)]
def wsX5_lasts : List Cond := .code yX5_lasts cX5_lasts 4 (some .int) :: ((wsX5_lasts_r1 ++ (wsX5_lasts_r2 ++ wsX5_lasts_r3)) ++ wsX50)
def wsX5_lacks : List Cond := .code yX5_lacks cX5_lacks 3 (some .int) :: ([.fieldLink RX5 9 "GritIsIssuedModel" "s" "[I", .methodLink RX5 125 yX5_lacksIn, .static yX5_lacksIn, .initialized RX5, .code yX5_lacksIn cX5_lacksIn 3 (some .int), .methodLink RX5 49 yX5_needs, .static yX5_needs, .code yX5_needs cX5_needs 3 (some .int), .methodLink RX5 45 yX5_of, .static yX5_of, .code yX5_of cX5_of 2 (some .int)] ++ wsX50)
def wsX5_next : List Cond := .code yX5_next cX5_next 4 (some .int) :: ([.fieldLink RX5 9 "GritIsIssuedModel" "s" "[I", .methodLink RX5 41 yX5_isIn, .static yX5_isIn, .initialized RX5, .code yX5_isIn cX5_isIn 3 (some .boolean), .methodLink RX5 35 yX5_no, .instanceMethod yX5_no, .selects RX5 yX5_no yX5_no, .code yX5_no cX5_no 2 (some .int), .fieldLink RX5 28 "GritIsIssuedModel" "refused" "[I", .methodLink RX5 45 yX5_of, .static yX5_of, .code yX5_of cX5_of 2 (some .int)] ++ wsX50)
def wsX5_isShortWithin_r1 : List Cond := [Cond.fieldLink RX5 13 "GritIsIssuedModel" "m" "[I", Cond.fieldLink RX5 19 "GritIsIssuedModel" "was" "[I", Cond.methodLink RX5 118 yX5_copies, Cond.static yX5_copies, Cond.initialized RX5, Cond.code yX5_copies cX5_copies 3 none, Cond.methodLink RX5 69 yX5_day, Cond.static yX5_day, Cond.code yX5_day cX5_day 2 none, Cond.methodLink RX5 45 yX5_of, Cond.static yX5_of, Cond.code yX5_of cX5_of 2 (some .int), Cond.methodLink RX5 66 yX5_meets, Cond.static yX5_meets, Cond.code yX5_meets cX5_meets 5 none, Cond.methodLink RX5 49 yX5_needs, Cond.static yX5_needs, Cond.code yX5_needs cX5_needs 3 (some .int), Cond.methodLink RX5 53 yX5_least, Cond.static yX5_least, Cond.code yX5_least cX5_least 2 (some .int), Cond.methodLink RX5 56 yX5_wears, Cond.static yX5_wears, Cond.code yX5_wears cX5_wears 2 (some .int)]
def wsX5_isShortWithin_r2 : List Cond := [Cond.methodLink RX5 59 yX5_isGone, Cond.static yX5_isGone, Cond.code yX5_isGone cX5_isGone 2 none, Cond.methodLink RX5 63 yX5_nextBy, Cond.static yX5_nextBy, Cond.code yX5_nextBy cX5_nextBy 1 (some .int), Cond.methodLink RX5 136 yX5_isShortOn, Cond.instanceMethod yX5_isShortOn, Cond.selects RX5 yX5_isShortOn yX5_isShortOn, Cond.code yX5_isShortOn cX5_isShortOn 2 (some .boolean)]
def wsX5_isShortWithin : List Cond := .code yX5_isShortWithin cX5_isShortWithin 4 (some .boolean) :: ((wsX5_isShortWithin_r1 ++ wsX5_isShortWithin_r2) ++ wsX50)
def wsX5_enough_r1 : List Cond := [Cond.fieldLink RX5 9 "GritIsIssuedModel" "s" "[I", Cond.fieldLink RX5 13 "GritIsIssuedModel" "m" "[I", Cond.methodLink RX5 104 yX5_isOne, Cond.instanceMethod yX5_isOne, Cond.selects RX5 yX5_isOne yX5_isOne, Cond.initialized RX5, Cond.code yX5_isOne cX5_isOne 2 (some .boolean), Cond.methodLink RX5 41 yX5_isIn, Cond.static yX5_isIn, Cond.code yX5_isIn cX5_isIn 3 (some .boolean), Cond.methodLink RX5 128 yX5_wrongBy, Cond.static yX5_wrongBy, Cond.code yX5_wrongBy cX5_wrongBy 3 (some .int), Cond.methodLink RX5 35 yX5_no, Cond.instanceMethod yX5_no, Cond.selects RX5 yX5_no yX5_no, Cond.code yX5_no cX5_no 2 (some .int), Cond.fieldLink RX5 28 "GritIsIssuedModel" "refused" "[I", Cond.methodLink RX5 118 yX5_copies, Cond.static yX5_copies, Cond.code yX5_copies cX5_copies 3 none, Cond.methodLink RX5 45 yX5_of, Cond.static yX5_of, Cond.code yX5_of cX5_of 2 (some .int)]
def wsX5_enough_r2 : List Cond := [Cond.methodLink RX5 142 yX5_isShortWithin, Cond.instanceMethod yX5_isShortWithin, Cond.selects RX5 yX5_isShortWithin yX5_isShortWithin, Cond.code yX5_isShortWithin cX5_isShortWithin 4 (some .boolean), Cond.fieldLink RX5 19 "GritIsIssuedModel" "was" "[I", Cond.methodLink RX5 69 yX5_day, Cond.static yX5_day, Cond.code yX5_day cX5_day 2 none, Cond.methodLink RX5 66 yX5_meets, Cond.static yX5_meets, Cond.code yX5_meets cX5_meets 5 none, Cond.methodLink RX5 49 yX5_needs, Cond.static yX5_needs, Cond.code yX5_needs cX5_needs 3 (some .int), Cond.methodLink RX5 53 yX5_least, Cond.static yX5_least, Cond.code yX5_least cX5_least 2 (some .int), Cond.methodLink RX5 56 yX5_wears, Cond.static yX5_wears, Cond.code yX5_wears cX5_wears 2 (some .int), Cond.methodLink RX5 59 yX5_isGone, Cond.static yX5_isGone, Cond.code yX5_isGone cX5_isGone 2 none, Cond.methodLink RX5 63 yX5_nextBy]
def wsX5_enough_r3 : List Cond := [Cond.static yX5_nextBy, Cond.code yX5_nextBy cX5_nextBy 1 (some .int), Cond.methodLink RX5 136 yX5_isShortOn, Cond.instanceMethod yX5_isShortOn, Cond.selects RX5 yX5_isShortOn yX5_isShortOn, Cond.code yX5_isShortOn cX5_isShortOn 2 (some .boolean)]
def wsX5_enough : List Cond := .code yX5_enough cX5_enough 5 (some .int) :: ((wsX5_enough_r1 ++ (wsX5_enough_r2 ++ wsX5_enough_r3)) ++ wsX50)
def wsX5_lacksOf : List Cond := .code yX5_lacksOf cX5_lacksOf 4 (some .int) :: ([.fieldLink RX5 9 "GritIsIssuedModel" "s" "[I", .methodLink RX5 145 yX5_has, .static yX5_has, .initialized RX5, .code yX5_has cX5_has 2 (some .boolean), .methodLink RX5 125 yX5_lacksIn, .static yX5_lacksIn, .code yX5_lacksIn cX5_lacksIn 3 (some .int), .methodLink RX5 49 yX5_needs, .static yX5_needs, .code yX5_needs cX5_needs 3 (some .int), .methodLink RX5 45 yX5_of, .static yX5_of, .code yX5_of cX5_of 2 (some .int)] ++ wsX50)
def wsX5_lacking : List Cond := .code yX5_lacking cX5_lacking 3 (some .int) :: ([.fieldLink RX5 9 "GritIsIssuedModel" "s" "[I", .methodLink RX5 125 yX5_lacksIn, .static yX5_lacksIn, .initialized RX5, .code yX5_lacksIn cX5_lacksIn 3 (some .int), .methodLink RX5 49 yX5_needs, .static yX5_needs, .code yX5_needs cX5_needs 3 (some .int), .methodLink RX5 45 yX5_of, .static yX5_of, .code yX5_of cX5_of 2 (some .int)] ++ wsX50)
def wsX5_serve_r1 : List Cond := [Cond.fieldLink RX5 9 "GritIsIssuedModel" "s" "[I", Cond.methodLink RX5 41 yX5_isIn, Cond.static yX5_isIn, Cond.initialized RX5, Cond.code yX5_isIn cX5_isIn 3 (some .boolean), Cond.methodLink RX5 35 yX5_no, Cond.instanceMethod yX5_no, Cond.selects RX5 yX5_no yX5_no, Cond.code yX5_no cX5_no 2 (some .int), Cond.fieldLink RX5 28 "GritIsIssuedModel" "refused" "[I", Cond.methodLink RX5 148 yX5_lacking, Cond.instanceMethod yX5_lacking, Cond.selects RX5 yX5_lacking yX5_lacking, Cond.code yX5_lacking cX5_lacking 3 (some .int), Cond.methodLink RX5 125 yX5_lacksIn, Cond.static yX5_lacksIn, Cond.code yX5_lacksIn cX5_lacksIn 3 (some .int), Cond.methodLink RX5 49 yX5_needs, Cond.static yX5_needs, Cond.code yX5_needs cX5_needs 3 (some .int), Cond.methodLink RX5 45 yX5_of, Cond.static yX5_of, Cond.code yX5_of cX5_of 2 (some .int), Cond.methodLink RX5 151 yX5_bits]
def wsX5_serve_r2 : List Cond := [Cond.static yX5_bits, Cond.code yX5_bits cX5_bits 3 (some .int), Cond.methodLink RX5 154 yX5_lacksOf, Cond.instanceMethod yX5_lacksOf, Cond.selects RX5 yX5_lacksOf yX5_lacksOf, Cond.code yX5_lacksOf cX5_lacksOf 4 (some .int), Cond.methodLink RX5 145 yX5_has, Cond.static yX5_has, Cond.code yX5_has cX5_has 2 (some .boolean)]
def wsX5_serve : List Cond := .code yX5_serve cX5_serve 5 (some .int) :: ((wsX5_serve_r1 ++ wsX5_serve_r2) ++ wsX50)
def wsX5_signs : List Cond := .code yX5_signs cX5_signs 3 (some .int) :: ([.fieldLink RX5 13 "GritIsIssuedModel" "m" "[I", .methodLink RX5 125 yX5_lacksIn, .static yX5_lacksIn, .initialized RX5, .code yX5_lacksIn cX5_lacksIn 3 (some .int), .methodLink RX5 49 yX5_needs, .static yX5_needs, .code yX5_needs cX5_needs 3 (some .int), .methodLink RX5 45 yX5_of, .static yX5_of, .code yX5_of cX5_of 2 (some .int), .methodLink RX5 108 yX5_issuesIn, .static yX5_issuesIn, .code yX5_issuesIn cX5_issuesIn 3 none] ++ wsX50)
def wsX5_best_r1 : List Cond := [Cond.fieldLink RX5 9 "GritIsIssuedModel" "s" "[I", Cond.fieldLink RX5 13 "GritIsIssuedModel" "m" "[I", Cond.methodLink RX5 128 yX5_wrongBy, Cond.static yX5_wrongBy, Cond.initialized RX5, Cond.code yX5_wrongBy cX5_wrongBy 3 (some .int), Cond.methodLink RX5 41 yX5_isIn, Cond.static yX5_isIn, Cond.code yX5_isIn cX5_isIn 3 (some .boolean), Cond.methodLink RX5 35 yX5_no, Cond.instanceMethod yX5_no, Cond.selects RX5 yX5_no yX5_no, Cond.code yX5_no cX5_no 2 (some .int), Cond.fieldLink RX5 28 "GritIsIssuedModel" "refused" "[I", Cond.methodLink RX5 118 yX5_copies, Cond.static yX5_copies, Cond.code yX5_copies cX5_copies 3 none, Cond.methodLink RX5 145 yX5_has, Cond.static yX5_has, Cond.code yX5_has cX5_has 2 (some .boolean), Cond.methodLink RX5 157 yX5_signs, Cond.instanceMethod yX5_signs, Cond.selects RX5 yX5_signs yX5_signs, Cond.code yX5_signs cX5_signs 3 (some .int)]
def wsX5_best_r2 : List Cond := [Cond.methodLink RX5 125 yX5_lacksIn, Cond.static yX5_lacksIn, Cond.code yX5_lacksIn cX5_lacksIn 3 (some .int), Cond.methodLink RX5 49 yX5_needs, Cond.static yX5_needs, Cond.code yX5_needs cX5_needs 3 (some .int), Cond.methodLink RX5 45 yX5_of, Cond.static yX5_of, Cond.code yX5_of cX5_of 2 (some .int), Cond.methodLink RX5 108 yX5_issuesIn, Cond.static yX5_issuesIn, Cond.code yX5_issuesIn cX5_issuesIn 3 none, Cond.methodLink RX5 160 yX5_throughBehind, Cond.instanceMethod yX5_throughBehind, Cond.selects RX5 yX5_throughBehind yX5_throughBehind, Cond.code yX5_throughBehind cX5_throughBehind 2 (some .int), Cond.methodLink RX5 73 yX5_daysOn, Cond.static yX5_daysOn, Cond.code yX5_daysOn cX5_daysOn 3 none, Cond.methodLink RX5 69 yX5_day, Cond.static yX5_day, Cond.code yX5_day cX5_day 2 none, Cond.methodLink RX5 66 yX5_meets, Cond.static yX5_meets]
def wsX5_best_r3 : List Cond := [Cond.code yX5_meets cX5_meets 5 none, Cond.methodLink RX5 53 yX5_least, Cond.static yX5_least, Cond.code yX5_least cX5_least 2 (some .int), Cond.methodLink RX5 56 yX5_wears, Cond.static yX5_wears, Cond.code yX5_wears cX5_wears 2 (some .int), Cond.methodLink RX5 59 yX5_isGone, Cond.static yX5_isGone, Cond.code yX5_isGone cX5_isGone 2 none, Cond.methodLink RX5 63 yX5_nextBy, Cond.static yX5_nextBy, Cond.code yX5_nextBy cX5_nextBy 1 (some .int), Cond.methodLink RX5 76 yX5_allOf, Cond.static yX5_allOf, Cond.code yX5_allOf cX5_allOf 4 (some .int)]
def wsX5_best : List Cond := .code yX5_best cX5_best 9 (some .int) :: ((wsX5_best_r1 ++ (wsX5_best_r2 ++ wsX5_best_r3)) ++ wsX50)
def wsX5_refusesOne : List Cond := .code yX5_refusesOne cX5_refusesOne 3 (some .int) :: ([.fieldLink RX5 13 "GritIsIssuedModel" "m" "[I", .methodLink RX5 45 yX5_of, .static yX5_of, .initialized RX5, .code yX5_of cX5_of 2 (some .int), .methodLink RX5 125 yX5_lacksIn, .static yX5_lacksIn, .code yX5_lacksIn cX5_lacksIn 3 (some .int), .methodLink RX5 49 yX5_needs, .static yX5_needs, .code yX5_needs cX5_needs 3 (some .int), .methodLink RX5 108 yX5_issuesIn, .static yX5_issuesIn, .code yX5_issuesIn cX5_issuesIn 3 none] ++ wsX50)
def wsX5_run_r1 : List Cond := [Cond.fieldLink RX5 9 "GritIsIssuedModel" "s" "[I", Cond.fieldLink RX5 13 "GritIsIssuedModel" "m" "[I", Cond.methodLink RX5 41 yX5_isIn, Cond.static yX5_isIn, Cond.initialized RX5, Cond.code yX5_isIn cX5_isIn 3 (some .boolean), Cond.methodLink RX5 35 yX5_no, Cond.instanceMethod yX5_no, Cond.selects RX5 yX5_no yX5_no, Cond.code yX5_no cX5_no 2 (some .int), Cond.fieldLink RX5 28 "GritIsIssuedModel" "refused" "[I", Cond.methodLink RX5 118 yX5_copies, Cond.static yX5_copies, Cond.code yX5_copies cX5_copies 3 none, Cond.methodLink RX5 163 yX5_refusesOne, Cond.instanceMethod yX5_refusesOne, Cond.selects RX5 yX5_refusesOne yX5_refusesOne, Cond.code yX5_refusesOne cX5_refusesOne 3 (some .int), Cond.methodLink RX5 45 yX5_of, Cond.static yX5_of, Cond.code yX5_of cX5_of 2 (some .int), Cond.methodLink RX5 125 yX5_lacksIn, Cond.static yX5_lacksIn, Cond.code yX5_lacksIn cX5_lacksIn 3 (some .int)]
def wsX5_run_r2 : List Cond := [Cond.methodLink RX5 49 yX5_needs, Cond.static yX5_needs, Cond.code yX5_needs cX5_needs 3 (some .int), Cond.methodLink RX5 108 yX5_issuesIn, Cond.static yX5_issuesIn, Cond.code yX5_issuesIn cX5_issuesIn 3 none, Cond.methodLink RX5 69 yX5_day, Cond.static yX5_day, Cond.code yX5_day cX5_day 2 none, Cond.methodLink RX5 66 yX5_meets, Cond.static yX5_meets, Cond.code yX5_meets cX5_meets 5 none, Cond.methodLink RX5 53 yX5_least, Cond.static yX5_least, Cond.code yX5_least cX5_least 2 (some .int), Cond.methodLink RX5 56 yX5_wears, Cond.static yX5_wears, Cond.code yX5_wears cX5_wears 2 (some .int), Cond.methodLink RX5 59 yX5_isGone, Cond.static yX5_isGone, Cond.code yX5_isGone cX5_isGone 2 none, Cond.methodLink RX5 63 yX5_nextBy, Cond.static yX5_nextBy, Cond.code yX5_nextBy cX5_nextBy 1 (some .int)]
def wsX5_run : List Cond := .code yX5_run cX5_run 4 (some .int) :: ((wsX5_run_r1 ++ wsX5_run_r2) ++ wsX50)
def wsX5_servesAll_r1 : List Cond := [Cond.fieldLink RX5 9 "GritIsIssuedModel" "s" "[I", Cond.fieldLink RX5 13 "GritIsIssuedModel" "m" "[I", Cond.methodLink RX5 118 yX5_copies, Cond.static yX5_copies, Cond.initialized RX5, Cond.code yX5_copies cX5_copies 3 none, Cond.methodLink RX5 163 yX5_refusesOne, Cond.instanceMethod yX5_refusesOne, Cond.selects RX5 yX5_refusesOne yX5_refusesOne, Cond.code yX5_refusesOne cX5_refusesOne 3 (some .int), Cond.methodLink RX5 45 yX5_of, Cond.static yX5_of, Cond.code yX5_of cX5_of 2 (some .int), Cond.methodLink RX5 125 yX5_lacksIn, Cond.static yX5_lacksIn, Cond.code yX5_lacksIn cX5_lacksIn 3 (some .int), Cond.methodLink RX5 49 yX5_needs, Cond.static yX5_needs, Cond.code yX5_needs cX5_needs 3 (some .int), Cond.methodLink RX5 108 yX5_issuesIn, Cond.static yX5_issuesIn, Cond.code yX5_issuesIn cX5_issuesIn 3 none, Cond.methodLink RX5 69 yX5_day, Cond.static yX5_day]
def wsX5_servesAll_r2 : List Cond := [Cond.code yX5_day cX5_day 2 none, Cond.methodLink RX5 66 yX5_meets, Cond.static yX5_meets, Cond.code yX5_meets cX5_meets 5 none, Cond.methodLink RX5 53 yX5_least, Cond.static yX5_least, Cond.code yX5_least cX5_least 2 (some .int), Cond.methodLink RX5 56 yX5_wears, Cond.static yX5_wears, Cond.code yX5_wears cX5_wears 2 (some .int), Cond.methodLink RX5 59 yX5_isGone, Cond.static yX5_isGone, Cond.code yX5_isGone cX5_isGone 2 none, Cond.methodLink RX5 63 yX5_nextBy, Cond.static yX5_nextBy, Cond.code yX5_nextBy cX5_nextBy 1 (some .int)]
def wsX5_servesAll : List Cond := .code yX5_servesAll cX5_servesAll 4 (some .boolean) :: ((wsX5_servesAll_r1 ++ wsX5_servesAll_r2) ++ wsX50)
def wsX5_stock_r1 : List Cond := [Cond.methodLink RX5 128 yX5_wrongBy, Cond.static yX5_wrongBy, Cond.initialized RX5, Cond.code yX5_wrongBy cX5_wrongBy 3 (some .int), Cond.methodLink RX5 35 yX5_no, Cond.instanceMethod yX5_no, Cond.selects RX5 yX5_no yX5_no, Cond.code yX5_no cX5_no 2 (some .int), Cond.fieldLink RX5 28 "GritIsIssuedModel" "refused" "[I", Cond.methodLink RX5 166 yX5_servesAll, Cond.instanceMethod yX5_servesAll, Cond.selects RX5 yX5_servesAll yX5_servesAll, Cond.code yX5_servesAll cX5_servesAll 4 (some .boolean), Cond.fieldLink RX5 9 "GritIsIssuedModel" "s" "[I", Cond.fieldLink RX5 13 "GritIsIssuedModel" "m" "[I", Cond.methodLink RX5 118 yX5_copies, Cond.static yX5_copies, Cond.code yX5_copies cX5_copies 3 none, Cond.methodLink RX5 163 yX5_refusesOne, Cond.instanceMethod yX5_refusesOne, Cond.selects RX5 yX5_refusesOne yX5_refusesOne, Cond.code yX5_refusesOne cX5_refusesOne 3 (some .int), Cond.methodLink RX5 45 yX5_of, Cond.static yX5_of]
def wsX5_stock_r2 : List Cond := [Cond.code yX5_of cX5_of 2 (some .int), Cond.methodLink RX5 125 yX5_lacksIn, Cond.static yX5_lacksIn, Cond.code yX5_lacksIn cX5_lacksIn 3 (some .int), Cond.methodLink RX5 49 yX5_needs, Cond.static yX5_needs, Cond.code yX5_needs cX5_needs 3 (some .int), Cond.methodLink RX5 108 yX5_issuesIn, Cond.static yX5_issuesIn, Cond.code yX5_issuesIn cX5_issuesIn 3 none, Cond.methodLink RX5 69 yX5_day, Cond.static yX5_day, Cond.code yX5_day cX5_day 2 none, Cond.methodLink RX5 66 yX5_meets, Cond.static yX5_meets, Cond.code yX5_meets cX5_meets 5 none, Cond.methodLink RX5 53 yX5_least, Cond.static yX5_least, Cond.code yX5_least cX5_least 2 (some .int), Cond.methodLink RX5 56 yX5_wears, Cond.static yX5_wears, Cond.code yX5_wears cX5_wears 2 (some .int), Cond.methodLink RX5 59 yX5_isGone, Cond.static yX5_isGone]
def wsX5_stock_r3 : List Cond := [Cond.code yX5_isGone cX5_isGone 2 none, Cond.methodLink RX5 63 yX5_nextBy, Cond.static yX5_nextBy, Cond.code yX5_nextBy cX5_nextBy 1 (some .int)]
def wsX5_stock : List Cond := .code yX5_stock cX5_stock 4 (some .int) :: ((wsX5_stock_r1 ++ (wsX5_stock_r2 ++ wsX5_stock_r3)) ++ wsX50)
def wsX5_throughOf : List Cond := .code yX5_throughOf cX5_throughOf 3 (some .int) :: ([.fieldLink RX5 9 "GritIsIssuedModel" "s" "[I", .methodLink RX5 45 yX5_of, .static yX5_of, .initialized RX5, .code yX5_of cX5_of 2 (some .int)] ++ wsX50)
def wsX5_borrow_r1 : List Cond := [Cond.fieldLink RX5 9 "GritIsIssuedModel" "s" "[I", Cond.fieldLink RX5 13 "GritIsIssuedModel" "m" "[I", Cond.methodLink RX5 104 yX5_isOne, Cond.instanceMethod yX5_isOne, Cond.selects RX5 yX5_isOne yX5_isOne, Cond.initialized RX5, Cond.code yX5_isOne cX5_isOne 2 (some .boolean), Cond.methodLink RX5 41 yX5_isIn, Cond.static yX5_isIn, Cond.code yX5_isIn cX5_isIn 3 (some .boolean), Cond.methodLink RX5 128 yX5_wrongBy, Cond.static yX5_wrongBy, Cond.code yX5_wrongBy cX5_wrongBy 3 (some .int), Cond.methodLink RX5 35 yX5_no, Cond.instanceMethod yX5_no, Cond.selects RX5 yX5_no yX5_no, Cond.code yX5_no cX5_no 2 (some .int), Cond.fieldLink RX5 28 "GritIsIssuedModel" "refused" "[I", Cond.methodLink RX5 125 yX5_lacksIn, Cond.static yX5_lacksIn, Cond.code yX5_lacksIn cX5_lacksIn 3 (some .int), Cond.methodLink RX5 49 yX5_needs, Cond.static yX5_needs, Cond.code yX5_needs cX5_needs 3 (some .int)]
def wsX5_borrow_r2 : List Cond := [Cond.methodLink RX5 45 yX5_of, Cond.static yX5_of, Cond.code yX5_of cX5_of 2 (some .int), Cond.methodLink RX5 132 yX5_takes, Cond.instanceMethod yX5_takes, Cond.selects RX5 yX5_takes yX5_takes, Cond.code yX5_takes cX5_takes 2 none, Cond.methodLink RX5 118 yX5_copies, Cond.static yX5_copies, Cond.code yX5_copies cX5_copies 3 none, Cond.methodLink RX5 73 yX5_daysOn, Cond.static yX5_daysOn, Cond.code yX5_daysOn cX5_daysOn 3 none, Cond.methodLink RX5 69 yX5_day, Cond.static yX5_day, Cond.code yX5_day cX5_day 2 none, Cond.methodLink RX5 66 yX5_meets, Cond.static yX5_meets, Cond.code yX5_meets cX5_meets 5 none, Cond.methodLink RX5 53 yX5_least, Cond.static yX5_least, Cond.code yX5_least cX5_least 2 (some .int), Cond.methodLink RX5 56 yX5_wears, Cond.static yX5_wears]
def wsX5_borrow_r3 : List Cond := [Cond.code yX5_wears cX5_wears 2 (some .int), Cond.methodLink RX5 59 yX5_isGone, Cond.static yX5_isGone, Cond.code yX5_isGone cX5_isGone 2 none, Cond.methodLink RX5 63 yX5_nextBy, Cond.static yX5_nextBy, Cond.code yX5_nextBy cX5_nextBy 1 (some .int), Cond.methodLink RX5 169 yX5_throughOf, Cond.instanceMethod yX5_throughOf, Cond.selects RX5 yX5_throughOf yX5_throughOf, Cond.code yX5_throughOf cX5_throughOf 3 (some .int)]
def wsX5_borrow : List Cond := .code yX5_borrow cX5_borrow 10 (some .int) :: ((wsX5_borrow_r1 ++ (wsX5_borrow_r2 ++ wsX5_borrow_r3)) ++ wsX50)
def wsX5_sweep_r1 : List Cond := [Cond.fieldLink RX5 13 "GritIsIssuedModel" "m" "[I", Cond.constant RX5 34 (1000000000), Cond.fieldLink RX5 9 "GritIsIssuedModel" "s" "[I", Cond.methodLink RX5 128 yX5_wrongBy, Cond.static yX5_wrongBy, Cond.initialized RX5, Cond.code yX5_wrongBy cX5_wrongBy 3 (some .int), Cond.methodLink RX5 41 yX5_isIn, Cond.static yX5_isIn, Cond.code yX5_isIn cX5_isIn 3 (some .boolean), Cond.methodLink RX5 35 yX5_no, Cond.instanceMethod yX5_no, Cond.selects RX5 yX5_no yX5_no, Cond.code yX5_no cX5_no 2 (some .int), Cond.fieldLink RX5 28 "GritIsIssuedModel" "refused" "[I", Cond.methodLink RX5 132 yX5_takes, Cond.instanceMethod yX5_takes, Cond.selects RX5 yX5_takes yX5_takes, Cond.code yX5_takes cX5_takes 2 none, Cond.methodLink RX5 118 yX5_copies, Cond.static yX5_copies, Cond.code yX5_copies cX5_copies 3 none, Cond.methodLink RX5 73 yX5_daysOn, Cond.static yX5_daysOn]
def wsX5_sweep_r2 : List Cond := [Cond.code yX5_daysOn cX5_daysOn 3 none, Cond.methodLink RX5 69 yX5_day, Cond.static yX5_day, Cond.code yX5_day cX5_day 2 none, Cond.methodLink RX5 45 yX5_of, Cond.static yX5_of, Cond.code yX5_of cX5_of 2 (some .int), Cond.methodLink RX5 66 yX5_meets, Cond.static yX5_meets, Cond.code yX5_meets cX5_meets 5 none, Cond.methodLink RX5 49 yX5_needs, Cond.static yX5_needs, Cond.code yX5_needs cX5_needs 3 (some .int), Cond.methodLink RX5 53 yX5_least, Cond.static yX5_least, Cond.code yX5_least cX5_least 2 (some .int), Cond.methodLink RX5 56 yX5_wears, Cond.static yX5_wears, Cond.code yX5_wears cX5_wears 2 (some .int), Cond.methodLink RX5 59 yX5_isGone, Cond.static yX5_isGone, Cond.code yX5_isGone cX5_isGone 2 none, Cond.methodLink RX5 63 yX5_nextBy, Cond.static yX5_nextBy]
def wsX5_sweep_r3 : List Cond := [Cond.code yX5_nextBy cX5_nextBy 1 (some .int), Cond.methodLink RX5 76 yX5_allOf, Cond.static yX5_allOf, Cond.code yX5_allOf cX5_allOf 4 (some .int), Cond.methodLink RX5 112 yX5_handsIn, Cond.static yX5_handsIn, Cond.code yX5_handsIn cX5_handsIn 3 none]
def wsX5_sweep : List Cond := .code yX5_sweep cX5_sweep 9 (some .int) :: ((wsX5_sweep_r1 ++ (wsX5_sweep_r2 ++ wsX5_sweep_r3)) ++ wsX50)
def wsX5_grain_r1 : List Cond := [Cond.fieldLink RX5 9 "GritIsIssuedModel" "s" "[I", Cond.fieldLink RX5 13 "GritIsIssuedModel" "m" "[I", Cond.methodLink RX5 128 yX5_wrongBy, Cond.static yX5_wrongBy, Cond.initialized RX5, Cond.code yX5_wrongBy cX5_wrongBy 3 (some .int), Cond.methodLink RX5 35 yX5_no, Cond.instanceMethod yX5_no, Cond.selects RX5 yX5_no yX5_no, Cond.code yX5_no cX5_no 2 (some .int), Cond.fieldLink RX5 28 "GritIsIssuedModel" "refused" "[I", Cond.methodLink RX5 118 yX5_copies, Cond.static yX5_copies, Cond.code yX5_copies cX5_copies 3 none, Cond.methodLink RX5 160 yX5_throughBehind, Cond.instanceMethod yX5_throughBehind, Cond.selects RX5 yX5_throughBehind yX5_throughBehind, Cond.code yX5_throughBehind cX5_throughBehind 2 (some .int), Cond.methodLink RX5 73 yX5_daysOn, Cond.static yX5_daysOn, Cond.code yX5_daysOn cX5_daysOn 3 none, Cond.methodLink RX5 69 yX5_day, Cond.static yX5_day, Cond.code yX5_day cX5_day 2 none]
def wsX5_grain_r2 : List Cond := [Cond.methodLink RX5 45 yX5_of, Cond.static yX5_of, Cond.code yX5_of cX5_of 2 (some .int), Cond.methodLink RX5 66 yX5_meets, Cond.static yX5_meets, Cond.code yX5_meets cX5_meets 5 none, Cond.methodLink RX5 49 yX5_needs, Cond.static yX5_needs, Cond.code yX5_needs cX5_needs 3 (some .int), Cond.methodLink RX5 53 yX5_least, Cond.static yX5_least, Cond.code yX5_least cX5_least 2 (some .int), Cond.methodLink RX5 56 yX5_wears, Cond.static yX5_wears, Cond.code yX5_wears cX5_wears 2 (some .int), Cond.methodLink RX5 59 yX5_isGone, Cond.static yX5_isGone, Cond.code yX5_isGone cX5_isGone 2 none, Cond.methodLink RX5 63 yX5_nextBy, Cond.static yX5_nextBy, Cond.code yX5_nextBy cX5_nextBy 1 (some .int), Cond.methodLink RX5 76 yX5_allOf, Cond.static yX5_allOf, Cond.code yX5_allOf cX5_allOf 4 (some .int)]
def wsX5_grain : List Cond := .code yX5_grain cX5_grain 7 (some .int) :: ((wsX5_grain_r1 ++ wsX5_grain_r2) ++ wsX50)
def wsX5_shares : List Cond := .code yX5_shares cX5_shares 3 (some .int) :: ([.fieldLink RX5 9 "GritIsIssuedModel" "s" "[I", .methodLink RX5 41 yX5_isIn, .static yX5_isIn, .initialized RX5, .code yX5_isIn cX5_isIn 3 (some .boolean), .methodLink RX5 35 yX5_no, .instanceMethod yX5_no, .selects RX5 yX5_no yX5_no, .code yX5_no cX5_no 2 (some .int), .fieldLink RX5 28 "GritIsIssuedModel" "refused" "[I"] ++ wsX50)
def wsX5_richest : List Cond := .code yX5_richest cX5_richest 3 (some .int) :: ([.fieldLink RX5 9 "GritIsIssuedModel" "s" "[I", .methodLink RX5 45 yX5_of, .static yX5_of, .initialized RX5, .code yX5_of cX5_of 2 (some .int)] ++ wsX50)
def wsX5_trusted : List Cond := .code yX5_trusted cX5_trusted 2 (some .int) :: ([.fieldLink RX5 9 "GritIsIssuedModel" "s" "[I", .methodLink RX5 104 yX5_isOne, .instanceMethod yX5_isOne, .selects RX5 yX5_isOne yX5_isOne, .initialized RX5, .code yX5_isOne cX5_isOne 2 (some .boolean), .methodLink RX5 41 yX5_isIn, .static yX5_isIn, .code yX5_isIn cX5_isIn 3 (some .boolean), .methodLink RX5 45 yX5_of, .static yX5_of, .code yX5_of cX5_of 2 (some .int), .methodLink RX5 172 yX5_noFar, .instanceMethod yX5_noFar, .selects RX5 yX5_noFar yX5_noFar, .code yX5_noFar cX5_noFar 2 (some .int), .constant RX5 34 (1000000000), .methodLink RX5 35 yX5_no, .instanceMethod yX5_no, .selects RX5 yX5_no yX5_no, .code yX5_no cX5_no 2 (some .int), .fieldLink RX5 28 "GritIsIssuedModel" "refused" "[I"] ++ wsX50)
def wsX5_worth : List Cond := .code yX5_worth cX5_worth 1 (some .int) :: ([.fieldLink RX5 9 "GritIsIssuedModel" "s" "[I", .methodLink RX5 76 yX5_allOf, .static yX5_allOf, .initialized RX5, .code yX5_allOf cX5_allOf 4 (some .int), .methodLink RX5 45 yX5_of, .static yX5_of, .code yX5_of cX5_of 2 (some .int)] ++ wsX50)
def wsX5_ownBy_r1 : List Cond := [Cond.fieldLink RX5 9 "GritIsIssuedModel" "s" "[I", Cond.fieldLink RX5 13 "GritIsIssuedModel" "m" "[I", Cond.methodLink RX5 118 yX5_copies, Cond.static yX5_copies, Cond.initialized RX5, Cond.code yX5_copies cX5_copies 3 none, Cond.methodLink RX5 157 yX5_signs, Cond.instanceMethod yX5_signs, Cond.selects RX5 yX5_signs yX5_signs, Cond.code yX5_signs cX5_signs 3 (some .int), Cond.methodLink RX5 125 yX5_lacksIn, Cond.static yX5_lacksIn, Cond.code yX5_lacksIn cX5_lacksIn 3 (some .int), Cond.methodLink RX5 49 yX5_needs, Cond.static yX5_needs, Cond.code yX5_needs cX5_needs 3 (some .int), Cond.methodLink RX5 45 yX5_of, Cond.static yX5_of, Cond.code yX5_of cX5_of 2 (some .int), Cond.methodLink RX5 108 yX5_issuesIn, Cond.static yX5_issuesIn, Cond.code yX5_issuesIn cX5_issuesIn 3 none, Cond.methodLink RX5 73 yX5_daysOn, Cond.static yX5_daysOn]
def wsX5_ownBy_r2 : List Cond := [Cond.code yX5_daysOn cX5_daysOn 3 none, Cond.methodLink RX5 69 yX5_day, Cond.static yX5_day, Cond.code yX5_day cX5_day 2 none, Cond.methodLink RX5 66 yX5_meets, Cond.static yX5_meets, Cond.code yX5_meets cX5_meets 5 none, Cond.methodLink RX5 53 yX5_least, Cond.static yX5_least, Cond.code yX5_least cX5_least 2 (some .int), Cond.methodLink RX5 56 yX5_wears, Cond.static yX5_wears, Cond.code yX5_wears cX5_wears 2 (some .int), Cond.methodLink RX5 59 yX5_isGone, Cond.static yX5_isGone, Cond.code yX5_isGone cX5_isGone 2 none, Cond.methodLink RX5 63 yX5_nextBy, Cond.static yX5_nextBy, Cond.code yX5_nextBy cX5_nextBy 1 (some .int), Cond.methodLink RX5 169 yX5_throughOf, Cond.instanceMethod yX5_throughOf, Cond.selects RX5 yX5_throughOf yX5_throughOf, Cond.code yX5_throughOf cX5_throughOf 3 (some .int)]
def wsX5_ownBy : List Cond := .code yX5_ownBy cX5_ownBy 9 (some .int) :: ((wsX5_ownBy_r1 ++ wsX5_ownBy_r2) ++ wsX50)
def wsX5_two_r1 : List Cond := [Cond.methodLink RX5 104 yX5_isOne, Cond.instanceMethod yX5_isOne, Cond.selects RX5 yX5_isOne yX5_isOne, Cond.initialized RX5, Cond.code yX5_isOne cX5_isOne 2 (some .boolean), Cond.fieldLink RX5 9 "GritIsIssuedModel" "s" "[I", Cond.methodLink RX5 41 yX5_isIn, Cond.static yX5_isIn, Cond.code yX5_isIn cX5_isIn 3 (some .boolean), Cond.methodLink RX5 128 yX5_wrongBy, Cond.static yX5_wrongBy, Cond.code yX5_wrongBy cX5_wrongBy 3 (some .int), Cond.methodLink RX5 35 yX5_no, Cond.instanceMethod yX5_no, Cond.selects RX5 yX5_no yX5_no, Cond.code yX5_no cX5_no 2 (some .int), Cond.fieldLink RX5 28 "GritIsIssuedModel" "refused" "[I", Cond.methodLink RX5 175 yX5_ownBy, Cond.instanceMethod yX5_ownBy, Cond.selects RX5 yX5_ownBy yX5_ownBy, Cond.code yX5_ownBy cX5_ownBy 9 (some .int), Cond.fieldLink RX5 13 "GritIsIssuedModel" "m" "[I", Cond.methodLink RX5 118 yX5_copies, Cond.static yX5_copies]
def wsX5_two_r2 : List Cond := [Cond.code yX5_copies cX5_copies 3 none, Cond.methodLink RX5 157 yX5_signs, Cond.instanceMethod yX5_signs, Cond.selects RX5 yX5_signs yX5_signs, Cond.code yX5_signs cX5_signs 3 (some .int), Cond.methodLink RX5 125 yX5_lacksIn, Cond.static yX5_lacksIn, Cond.code yX5_lacksIn cX5_lacksIn 3 (some .int), Cond.methodLink RX5 49 yX5_needs, Cond.static yX5_needs, Cond.code yX5_needs cX5_needs 3 (some .int), Cond.methodLink RX5 45 yX5_of, Cond.static yX5_of, Cond.code yX5_of cX5_of 2 (some .int), Cond.methodLink RX5 108 yX5_issuesIn, Cond.static yX5_issuesIn, Cond.code yX5_issuesIn cX5_issuesIn 3 none, Cond.methodLink RX5 73 yX5_daysOn, Cond.static yX5_daysOn, Cond.code yX5_daysOn cX5_daysOn 3 none, Cond.methodLink RX5 69 yX5_day, Cond.static yX5_day, Cond.code yX5_day cX5_day 2 none, Cond.methodLink RX5 66 yX5_meets]
def wsX5_two_r3 : List Cond := [Cond.static yX5_meets, Cond.code yX5_meets cX5_meets 5 none, Cond.methodLink RX5 53 yX5_least, Cond.static yX5_least, Cond.code yX5_least cX5_least 2 (some .int), Cond.methodLink RX5 56 yX5_wears, Cond.static yX5_wears, Cond.code yX5_wears cX5_wears 2 (some .int), Cond.methodLink RX5 59 yX5_isGone, Cond.static yX5_isGone, Cond.code yX5_isGone cX5_isGone 2 none, Cond.methodLink RX5 63 yX5_nextBy, Cond.static yX5_nextBy, Cond.code yX5_nextBy cX5_nextBy 1 (some .int), Cond.methodLink RX5 169 yX5_throughOf, Cond.instanceMethod yX5_throughOf, Cond.selects RX5 yX5_throughOf yX5_throughOf, Cond.code yX5_throughOf cX5_throughOf 3 (some .int)]
def wsX5_two : List Cond := .code yX5_two cX5_two 8 (some .int) :: ((wsX5_two_r1 ++ (wsX5_two_r2 ++ wsX5_two_r3)) ++ wsX50)
def wsX5_gcd : List Cond := .code yX5_gcd cX5_gcd 10 (some .long) :: ([])
def wsX5_partOf : List Cond := .code yX5_partOf cX5_partOf 5 (some .long) :: ([.methodLink RX5 179 yX5_gcd, .static yX5_gcd, .initialized RX5, .code yX5_gcd cX5_gcd 10 (some .long)])
def wsX5_slip_r1 : List Cond := [Cond.fieldLink RX5 9 "GritIsIssuedModel" "s" "[I", Cond.fieldLink RX5 13 "GritIsIssuedModel" "m" "[I", Cond.methodLink RX5 104 yX5_isOne, Cond.instanceMethod yX5_isOne, Cond.selects RX5 yX5_isOne yX5_isOne, Cond.initialized RX5, Cond.code yX5_isOne cX5_isOne 2 (some .boolean), Cond.methodLink RX5 41 yX5_isIn, Cond.static yX5_isIn, Cond.code yX5_isIn cX5_isIn 3 (some .boolean), Cond.methodLink RX5 183 yX5_noWide, Cond.instanceMethod yX5_noWide, Cond.selects RX5 yX5_noWide yX5_noWide, Cond.code yX5_noWide cX5_noWide 2 (some .long), Cond.constantLong RX5 39 (4000000000000000000), Cond.methodLink RX5 35 yX5_no, Cond.instanceMethod yX5_no, Cond.selects RX5 yX5_no yX5_no, Cond.code yX5_no cX5_no 2 (some .int), Cond.fieldLink RX5 28 "GritIsIssuedModel" "refused" "[I", Cond.methodLink RX5 118 yX5_copies, Cond.static yX5_copies, Cond.code yX5_copies cX5_copies 3 none, Cond.methodLink RX5 145 yX5_has]
def wsX5_slip_r2 : List Cond := [Cond.static yX5_has, Cond.code yX5_has cX5_has 2 (some .boolean), Cond.methodLink RX5 45 yX5_of, Cond.static yX5_of, Cond.code yX5_of cX5_of 2 (some .int), Cond.methodLink RX5 69 yX5_day, Cond.static yX5_day, Cond.code yX5_day cX5_day 2 none, Cond.methodLink RX5 66 yX5_meets, Cond.static yX5_meets, Cond.code yX5_meets cX5_meets 5 none, Cond.methodLink RX5 49 yX5_needs, Cond.static yX5_needs, Cond.code yX5_needs cX5_needs 3 (some .int), Cond.methodLink RX5 53 yX5_least, Cond.static yX5_least, Cond.code yX5_least cX5_least 2 (some .int), Cond.methodLink RX5 56 yX5_wears, Cond.static yX5_wears, Cond.code yX5_wears cX5_wears 2 (some .int), Cond.methodLink RX5 59 yX5_isGone, Cond.static yX5_isGone, Cond.code yX5_isGone cX5_isGone 2 none, Cond.methodLink RX5 63 yX5_nextBy]
def wsX5_slip_r3 : List Cond := [Cond.static yX5_nextBy, Cond.code yX5_nextBy cX5_nextBy 1 (some .int), Cond.methodLink RX5 169 yX5_throughOf, Cond.instanceMethod yX5_throughOf, Cond.selects RX5 yX5_throughOf yX5_throughOf, Cond.code yX5_throughOf cX5_throughOf 3 (some .int), Cond.methodLink RX5 187 yX5_partOf, Cond.static yX5_partOf, Cond.code yX5_partOf cX5_partOf 5 (some .long), Cond.methodLink RX5 179 yX5_gcd, Cond.static yX5_gcd, Cond.code yX5_gcd cX5_gcd 10 (some .long)]
def wsX5_slip : List Cond := .code yX5_slip cX5_slip 14 (some .long) :: ((wsX5_slip_r1 ++ (wsX5_slip_r2 ++ wsX5_slip_r3)) ++ wsX50)
def wsX5_mean_r1 : List Cond := [Cond.fieldLink RX5 9 "GritIsIssuedModel" "s" "[I", Cond.methodLink RX5 41 yX5_isIn, Cond.static yX5_isIn, Cond.initialized RX5, Cond.code yX5_isIn cX5_isIn 3 (some .boolean), Cond.methodLink RX5 76 yX5_allOf, Cond.static yX5_allOf, Cond.code yX5_allOf cX5_allOf 4 (some .int), Cond.methodLink RX5 45 yX5_of, Cond.static yX5_of, Cond.code yX5_of cX5_of 2 (some .int), Cond.methodLink RX5 187 yX5_partOf, Cond.static yX5_partOf, Cond.code yX5_partOf cX5_partOf 5 (some .long), Cond.methodLink RX5 179 yX5_gcd, Cond.static yX5_gcd, Cond.code yX5_gcd cX5_gcd 10 (some .long), Cond.methodLink RX5 183 yX5_noWide, Cond.instanceMethod yX5_noWide, Cond.selects RX5 yX5_noWide yX5_noWide, Cond.code yX5_noWide cX5_noWide 2 (some .long), Cond.constantLong RX5 39 (4000000000000000000), Cond.methodLink RX5 35 yX5_no, Cond.instanceMethod yX5_no]
def wsX5_mean_r2 : List Cond := [Cond.selects RX5 yX5_no yX5_no, Cond.code yX5_no cX5_no 2 (some .int), Cond.fieldLink RX5 28 "GritIsIssuedModel" "refused" "[I"]
def wsX5_mean : List Cond := .code yX5_mean cX5_mean 2 (some .long) :: ((wsX5_mean_r1 ++ wsX5_mean_r2) ++ wsX50)
def wsX5_whatIs_r1 : List Cond := [Cond.fieldLink RX5 9 "GritIsIssuedModel" "s" "[I", Cond.fieldLink RX5 13 "GritIsIssuedModel" "m" "[I", Cond.fieldLink RX5 191 "GritIsIssuedModel" "rowMany" "I", Cond.fieldLink RX5 25 "GritIsIssuedModel" "row" "[I", Cond.methodLink RX5 104 yX5_isOne, Cond.instanceMethod yX5_isOne, Cond.selects RX5 yX5_isOne yX5_isOne, Cond.initialized RX5, Cond.code yX5_isOne cX5_isOne 2 (some .boolean), Cond.methodLink RX5 41 yX5_isIn, Cond.static yX5_isIn, Cond.code yX5_isIn cX5_isIn 3 (some .boolean), Cond.methodLink RX5 35 yX5_no, Cond.instanceMethod yX5_no, Cond.selects RX5 yX5_no yX5_no, Cond.code yX5_no cX5_no 2 (some .int), Cond.fieldLink RX5 28 "GritIsIssuedModel" "refused" "[I", Cond.methodLink RX5 118 yX5_copies, Cond.static yX5_copies, Cond.code yX5_copies cX5_copies 3 none, Cond.methodLink RX5 45 yX5_of, Cond.static yX5_of, Cond.code yX5_of cX5_of 2 (some .int), Cond.methodLink RX5 69 yX5_day]
def wsX5_whatIs_r2 : List Cond := [Cond.static yX5_day, Cond.code yX5_day cX5_day 2 none, Cond.methodLink RX5 66 yX5_meets, Cond.static yX5_meets, Cond.code yX5_meets cX5_meets 5 none, Cond.methodLink RX5 49 yX5_needs, Cond.static yX5_needs, Cond.code yX5_needs cX5_needs 3 (some .int), Cond.methodLink RX5 53 yX5_least, Cond.static yX5_least, Cond.code yX5_least cX5_least 2 (some .int), Cond.methodLink RX5 56 yX5_wears, Cond.static yX5_wears, Cond.code yX5_wears cX5_wears 2 (some .int), Cond.methodLink RX5 59 yX5_isGone, Cond.static yX5_isGone, Cond.code yX5_isGone cX5_isGone 2 none, Cond.methodLink RX5 63 yX5_nextBy, Cond.static yX5_nextBy, Cond.code yX5_nextBy cX5_nextBy 1 (some .int)]
def wsX5_whatIs : List Cond := .code yX5_whatIs cX5_whatIs 7 (some .int) :: ((wsX5_whatIs_r1 ++ wsX5_whatIs_r2) ++ wsX50)
def wsX5_row : List Cond := .code yX5_row cX5_row 3 (some .int) :: ([.fieldLink RX5 191 "GritIsIssuedModel" "rowMany" "I", .fieldLink RX5 25 "GritIsIssuedModel" "row" "[I", .methodLink RX5 128 yX5_wrongBy, .static yX5_wrongBy, .initialized RX5, .code yX5_wrongBy cX5_wrongBy 3 (some .int), .methodLink RX5 35 yX5_no, .instanceMethod yX5_no, .selects RX5 yX5_no yX5_no, .code yX5_no cX5_no 2 (some .int), .fieldLink RX5 28 "GritIsIssuedModel" "refused" "[I"] ++ wsX50)
def wsX5_judge : List Cond := .code yX5_judge cX5_judge 3 (some .int) :: ([.fieldLink RX5 191 "GritIsIssuedModel" "rowMany" "I", .fieldLink RX5 9 "GritIsIssuedModel" "s" "[I", .fieldLink RX5 25 "GritIsIssuedModel" "row" "[I", .methodLink RX5 104 yX5_isOne, .instanceMethod yX5_isOne, .selects RX5 yX5_isOne yX5_isOne, .initialized RX5, .code yX5_isOne cX5_isOne 2 (some .boolean), .methodLink RX5 41 yX5_isIn, .static yX5_isIn, .code yX5_isIn cX5_isIn 3 (some .boolean), .methodLink RX5 45 yX5_of, .static yX5_of, .code yX5_of cX5_of 2 (some .int)] ++ wsX50)
def wsX5_clear : List Cond := .code yX5_clear cX5_clear 2 (some .int) :: ([.fieldLink RX5 191 "GritIsIssuedModel" "rowMany" "I"] ++ wsX50)
def wsX5_drawn : List Cond := .code yX5_drawn cX5_drawn 2 (some .int) :: ([.fieldLink RX5 194 "GritIsIssuedModel" "seed" "I", .constant RX5 197 (1664525), .constant RX5 198 (1013904223), .constant RX5 199 (2147483647)] ++ wsX50)
def wsX5_lots_r1 : List Cond := [Cond.fieldLink RX5 194 "GritIsIssuedModel" "seed" "I", Cond.fieldLink RX5 9 "GritIsIssuedModel" "s" "[I", Cond.fieldLink RX5 13 "GritIsIssuedModel" "m" "[I", Cond.methodLink RX5 35 yX5_no, Cond.instanceMethod yX5_no, Cond.selects RX5 yX5_no yX5_no, Cond.initialized RX5, Cond.code yX5_no cX5_no 2 (some .int), Cond.fieldLink RX5 28 "GritIsIssuedModel" "refused" "[I", Cond.methodLink RX5 41 yX5_isIn, Cond.static yX5_isIn, Cond.code yX5_isIn cX5_isIn 3 (some .boolean), Cond.methodLink RX5 118 yX5_copies, Cond.static yX5_copies, Cond.code yX5_copies cX5_copies 3 none, Cond.methodLink RX5 45 yX5_of, Cond.static yX5_of, Cond.code yX5_of cX5_of 2 (some .int), Cond.methodLink RX5 200 yX5_drawn, Cond.instanceMethod yX5_drawn, Cond.selects RX5 yX5_drawn yX5_drawn, Cond.code yX5_drawn cX5_drawn 2 (some .int), Cond.constant RX5 197 (1664525), Cond.constant RX5 198 (1013904223)]
def wsX5_lots_r2 : List Cond := [Cond.constant RX5 199 (2147483647), Cond.methodLink RX5 73 yX5_daysOn, Cond.static yX5_daysOn, Cond.code yX5_daysOn cX5_daysOn 3 none, Cond.methodLink RX5 69 yX5_day, Cond.static yX5_day, Cond.code yX5_day cX5_day 2 none, Cond.methodLink RX5 66 yX5_meets, Cond.static yX5_meets, Cond.code yX5_meets cX5_meets 5 none, Cond.methodLink RX5 49 yX5_needs, Cond.static yX5_needs, Cond.code yX5_needs cX5_needs 3 (some .int), Cond.methodLink RX5 53 yX5_least, Cond.static yX5_least, Cond.code yX5_least cX5_least 2 (some .int), Cond.methodLink RX5 56 yX5_wears, Cond.static yX5_wears, Cond.code yX5_wears cX5_wears 2 (some .int), Cond.methodLink RX5 59 yX5_isGone, Cond.static yX5_isGone, Cond.code yX5_isGone cX5_isGone 2 none, Cond.methodLink RX5 63 yX5_nextBy, Cond.static yX5_nextBy]
def wsX5_lots_r3 : List Cond := [Cond.code yX5_nextBy cX5_nextBy 1 (some .int), Cond.methodLink RX5 76 yX5_allOf, Cond.static yX5_allOf, Cond.code yX5_allOf cX5_allOf 4 (some .int)]
def wsX5_lots : List Cond := .code yX5_lots cX5_lots 7 (some .int) :: ((wsX5_lots_r1 ++ (wsX5_lots_r2 ++ wsX5_lots_r3)) ++ wsX50)
def wsX5_image : List Cond := .code yX5_image cX5_image 1 (some .int) :: ([.fieldLink RX5 9 "GritIsIssuedModel" "s" "[I", .fieldLink RX5 16 "GritIsIssuedModel" "image" "[I", .fieldLink RX5 203 "GritIsIssuedModel" "hasImage" "Z", .methodLink RX5 118 yX5_copies, .static yX5_copies, .initialized RX5, .code yX5_copies cX5_copies 3 none] ++ wsX50)
def wsX5_on : List Cond := .code yX5_on cX5_on 1 (some .int) :: ([.fieldLink RX5 203 "GritIsIssuedModel" "hasImage" "Z", .fieldLink RX5 16 "GritIsIssuedModel" "image" "[I", .fieldLink RX5 9 "GritIsIssuedModel" "s" "[I", .methodLink RX5 35 yX5_no, .instanceMethod yX5_no, .selects RX5 yX5_no yX5_no, .initialized RX5, .code yX5_no cX5_no 2 (some .int), .fieldLink RX5 28 "GritIsIssuedModel" "refused" "[I", .methodLink RX5 118 yX5_copies, .static yX5_copies, .code yX5_copies cX5_copies 3 none] ++ wsX50)
def wsX5_count : List Cond := .code yX5_count cX5_count 4 (some .int) :: ([.fieldLink RX5 28 "GritIsIssuedModel" "refused" "[I", .fieldLink RX5 9 "GritIsIssuedModel" "s" "[I", .fieldLink RX5 191 "GritIsIssuedModel" "rowMany" "I", .fieldLink RX5 79 "GritIsIssuedModel" "letterMany" "I", .methodLink RX5 41 yX5_isIn, .static yX5_isIn, .initialized RX5, .code yX5_isIn cX5_isIn 3 (some .boolean), .methodLink RX5 76 yX5_allOf, .static yX5_allOf, .code yX5_allOf cX5_allOf 4 (some .int), .methodLink RX5 45 yX5_of, .static yX5_of, .code yX5_of cX5_of 2 (some .int)] ++ wsX50)
def wsJ9_max_7cf53 : List Cond := .code yJ9_max_7cf53 cJ9_max_7cf53 2 (some .int) :: ([])
def wsJ9_min_7cf53 : List Cond := .code yJ9_min_7cf53 cJ9_min_7cf53 2 (some .int) :: ([])
def wsL_law_r1 : List Cond := [Cond.classLink RL 7 RX4, Cond.instantiable RX4 11, Cond.initialized RX4, Cond.classLink RL 10 RX5, Cond.instantiable RX5 13, Cond.initialized RX5, Cond.methodLink RL 9 yX4_init, Cond.instanceMethod yX4_init, Cond.code yX4_init cX4_init 1 none, Cond.methodLink RX4 1 objectInit, Cond.instanceMethod objectInit, Cond.code objectInit ⟨#[0xb1]⟩ 1 none, Cond.classLink RX4 7 RX1, Cond.instantiable RX1 6, Cond.initialized RX1, Cond.fieldLink RX4 10 "GritIsIssued" "now" "LGritIsIssued$Office;", Cond.fieldLink RX4 16 "GritIsIssued" "mind" "LGritIsIssued$Office;", Cond.fieldLink RX4 19 "GritIsIssued" "image" "LGritIsIssued$Office;", Cond.classLink RX4 22 RX2, Cond.instantiable RX2 8, Cond.initialized RX2, Cond.fieldLink RX4 25 "GritIsIssued" "trial" "LGritIsIssued$Person;", Cond.classLink RX4 29 RX3, Cond.instantiable RX3 2]
def wsL_law_r2 : List Cond := [Cond.initialized RX3, Cond.fieldLink RX4 32 "GritIsIssued" "text" "LGritIsIssued$Text;", Cond.arrayClass .int, Cond.fieldLink RX4 36 "GritIsIssued" "row" "[I", Cond.fieldLink RX4 40 "GritIsIssued" "refusals" "[I", Cond.fieldLink RX4 43 "GritIsIssued" "throughBare" "[I", Cond.fieldLink RX4 46 "GritIsIssued" "throughGiven" "[I", Cond.methodLink RX4 9 yX1_init, Cond.instanceMethod yX1_init, Cond.code yX1_init cX1_init 2 none, Cond.methodLink RX1 3 objectInit, Cond.classLink RX1 9 RX2, Cond.fieldLink RX1 11 "GritIsIssued$Office" "room" "[LGritIsIssued$Person;", Cond.fieldLink RX1 18 "GritIsIssued$Office" "nobody" "LGritIsIssued$Person;", Cond.instanceMethod yX2_init, Cond.code yX2_init cX2_init 1 none, Cond.methodLink RX2 3 objectInit, Cond.instanceMethod yX3_init, Cond.code yX3_init cX3_init 1 none, Cond.methodLink RX3 3 objectInit, Cond.fieldLink RX3 9 "GritIsIssued$Text" "letters" "[I", Cond.methodLink RL 12 yX5_init, Cond.instanceMethod yX5_init, Cond.code yX5_init cX5_init 1 none]
def wsL_law_r3 : List Cond := [Cond.methodLink RX5 1 objectInit, Cond.fieldLink RX5 9 "GritIsIssuedModel" "s" "[I", Cond.fieldLink RX5 13 "GritIsIssuedModel" "m" "[I", Cond.fieldLink RX5 16 "GritIsIssuedModel" "image" "[I", Cond.fieldLink RX5 19 "GritIsIssuedModel" "was" "[I", Cond.fieldLink RX5 22 "GritIsIssuedModel" "letters" "[I", Cond.fieldLink RX5 25 "GritIsIssuedModel" "row" "[I", Cond.fieldLink RX5 28 "GritIsIssuedModel" "refused" "[I", Cond.fieldLink RX5 31 "GritIsIssuedModel" "numbers" "[I", Cond.methodLink RL 13 yX4_letter, Cond.instanceMethod yX4_letter, Cond.selects RX4 yX4_letter yX4_letter, Cond.code yX4_letter cX4_letter 3 (some .int), Cond.fieldLink RX4 53 "GritIsIssued$Text" "count" "I", Cond.methodLink RX4 49 yX4_outside, Cond.static yX4_outside, Cond.code yX4_outside cX4_outside 3 (some .int), Cond.methodLink RX4 57 yX4_refused, Cond.instanceMethod yX4_refused, Cond.selects RX4 yX4_refused yX4_refused, Cond.code yX4_refused cX4_refused 3 (some .int), Cond.methodLink RX4 61 yX3_add, Cond.instanceMethod yX3_add, Cond.selects RX3 yX3_add yX3_add]
def wsL_law_r4 : List Cond := [Cond.code yX3_add cX3_add 2 none, Cond.fieldLink RX3 15 "GritIsIssued$Text" "count" "I", Cond.methodLink RL 17 yX5_letter, Cond.instanceMethod yX5_letter, Cond.selects RX5 yX5_letter yX5_letter, Cond.code yX5_letter cX5_letter 2 (some .int), Cond.fieldLink RX5 79 "GritIsIssuedModel" "letterMany" "I", Cond.methodLink RX5 35 yX5_no, Cond.instanceMethod yX5_no, Cond.selects RX5 yX5_no yX5_no, Cond.code yX5_no cX5_no 2 (some .int), Cond.methodLink RL 18 yX4_counter, Cond.instanceMethod yX4_counter, Cond.selects RX4 yX4_counter yX4_counter, Cond.code yX4_counter cX4_counter 2 (some .int), Cond.methodLink RX4 65 yX4_read, Cond.instanceMethod yX4_read, Cond.selects RX4 yX4_read yX4_read, Cond.code yX4_read cX4_read 4 (some .int), Cond.methodLink RX4 239 yX3_firstWrong, Cond.instanceMethod yX3_firstWrong, Cond.selects RX3 yX3_firstWrong yX3_firstWrong, Cond.code yX3_firstWrong cX3_firstWrong 4 (some .int), Cond.methodLink RX3 19 yX3_letterAt]
def wsL_law_r5 : List Cond := [Cond.instanceMethod yX3_letterAt, Cond.selects RX3 yX3_letterAt yX3_letterAt, Cond.code yX3_letterAt cX3_letterAt 2 (some .int), Cond.methodLink RX3 30 yX3_behind, Cond.static yX3_behind, Cond.code yX3_behind cX3_behind 1 (some (.object "java/lang/String")), Cond.methodLink RX3 38 yJ0_isEmpty_aae02, Cond.instanceMethod yJ0_isEmpty_aae02, Cond.selects RJ0 yJ0_isEmpty_aae02 yJ0_isEmpty_aae02, Cond.initialized RJ0, Cond.code yJ0_isEmpty_aae02 cJ0_isEmpty_aae02 1 (some .boolean), Cond.fieldLink RJ0 9 "java/lang/String" "value" "[B", Cond.methodLink RX3 34 yJ0_length_8abf5, Cond.instanceMethod yJ0_length_8abf5, Cond.selects RJ0 yJ0_length_8abf5 yJ0_length_8abf5, Cond.code yJ0_length_8abf5 cJ0_length_8abf5 1 (some .int), Cond.methodLink RJ0 335 yJ0_coder_7d493, Cond.instanceMethod yJ0_coder_7d493, Cond.selects RJ0 yJ0_coder_7d493 yJ0_coder_7d493, Cond.code yJ0_coder_7d493 cJ0_coder_7d493 1 (some .byte), Cond.fieldLink RJ0 38 "java/lang/String" "COMPACT_STRINGS" "Z", Cond.fieldLink RJ0 15 "java/lang/String" "coder" "B", Cond.methodLink RX3 42 yJ0_charAt_5068e, Cond.instanceMethod yJ0_charAt_5068e]
def wsL_law_r6 : List Cond := [Cond.selects RJ0 yJ0_charAt_5068e yJ0_charAt_5068e, Cond.code yJ0_charAt_5068e cJ0_charAt_5068e 2 (some .char), Cond.methodLink RJ0 492 yJ0_isLatin1_aae02, Cond.instanceMethod yJ0_isLatin1_aae02, Cond.selects RJ0 yJ0_isLatin1_aae02 yJ0_isLatin1_aae02, Cond.code yJ0_isLatin1_aae02 cJ0_isLatin1_aae02 1 (some .boolean), Cond.methodLink RJ0 495 yJ1_charAt_3b067, Cond.static yJ1_charAt_3b067, Cond.initialized RJ1, Cond.code yJ1_charAt_3b067 cJ1_charAt_3b067 2 (some .char), Cond.methodLink RJ1 9 yJ0_checkIndex_df160, Cond.static yJ0_checkIndex_df160, Cond.code yJ0_checkIndex_df160 cJ0_checkIndex_df160 2 none, Cond.fieldLink RJ0 1053 "jdk/internal/util/Preconditions" "SIOOBE_FORMATTER" "Ljava/util/function/BiFunction;", Cond.methodLink RJ0 1059 yJ3_checkIndex_8e157, Cond.static yJ3_checkIndex_8e157, Cond.initialized RJ3, Cond.code yJ3_checkIndex_8e157 cJ3_checkIndex_8e157 3 (some .int), Cond.methodLink RJ0 498 yJ2_charAt_3b067, Cond.static yJ2_charAt_3b067, Cond.initialized RJ2, Cond.code yJ2_charAt_3b067 cJ2_charAt_3b067 2 (some .char), Cond.methodLink RJ2 67 yJ2_checkIndex_2214a, Cond.static yJ2_checkIndex_2214a]
def wsL_law_r7 : List Cond := [Cond.code yJ2_checkIndex_2214a cJ2_checkIndex_2214a 2 none, Cond.methodLink RJ2 48 yJ2_length_9d52b, Cond.static yJ2_length_9d52b, Cond.code yJ2_length_9d52b cJ2_length_9d52b 1 (some .int), Cond.methodLink RJ2 414 yJ0_checkIndex_df160, Cond.methodLink RJ2 71 yJ2_getChar_3b067, Cond.static yJ2_getChar_3b067, Cond.code yJ2_getChar_3b067 cJ2_getChar_3b067 2 (some .char), Cond.fieldLink RJ2 44 "java/lang/StringUTF16" "$assertionsDisabled" "Z", Cond.fieldLink RJ2 59 "java/lang/StringUTF16" "HI_BYTE_SHIFT" "I", Cond.fieldLink RJ2 63 "java/lang/StringUTF16" "LO_BYTE_SHIFT" "I", Cond.methodLink RX3 46 yX3_fits, Cond.instanceMethod yX3_fits, Cond.selects RX3 yX3_fits yX3_fits, Cond.code yX3_fits cX3_fits 4 (some .boolean), Cond.methodLink RX3 60 yX3_kindAt, Cond.instanceMethod yX3_kindAt, Cond.selects RX3 yX3_kindAt yX3_kindAt, Cond.code yX3_kindAt cX3_kindAt 3 (some .int), Cond.methodLink RX3 25 yJ0_indexOf_0f7a4, Cond.instanceMethod yJ0_indexOf_0f7a4, Cond.selects RJ0 yJ0_indexOf_0f7a4 yJ0_indexOf_0f7a4, Cond.code yJ0_indexOf_0f7a4 cJ0_indexOf_0f7a4 2 (some .int), Cond.methodLink RJ0 633 yJ0_indexOf_7cf53]
def wsL_law_r8 : List Cond := [Cond.instanceMethod yJ0_indexOf_7cf53, Cond.selects RJ0 yJ0_indexOf_7cf53 yJ0_indexOf_7cf53, Cond.code yJ0_indexOf_7cf53 cJ0_indexOf_7cf53 3 (some .int), Cond.methodLink RJ0 505 yJ0_length_8abf5, Cond.methodLink RJ0 637 yJ1_indexOf_4cfef, Cond.static yJ1_indexOf_4cfef, Cond.code yJ1_indexOf_4cfef cJ1_indexOf_4cfef 4 (some .int), Cond.methodLink RJ1 92 Lib.Math.max.name, Cond.static Lib.Math.max.name, Cond.initialized "java/lang/Math", Cond.code Lib.Math.max.name Lib.Math.max.code 2 (some .int), Cond.methodLink RJ1 38 Lib.Math.min.name, Cond.static Lib.Math.min.name, Cond.code Lib.Math.min.name Lib.Math.min.code 2 (some .int), Cond.methodLink RJ1 88 yJ1_canEncode_9a6ad, Cond.static yJ1_canEncode_9a6ad, Cond.code yJ1_canEncode_9a6ad cJ1_canEncode_9a6ad 1 (some .boolean), Cond.methodLink RJ1 95 yJ1_indexOfChar_4cfef, Cond.static yJ1_indexOfChar_4cfef, Cond.code yJ1_indexOfChar_4cfef cJ1_indexOfChar_4cfef 6 (some .int), Cond.methodLink RJ0 640 yJ2_indexOf_4cfef, Cond.static yJ2_indexOf_4cfef, Cond.code yJ2_indexOf_4cfef cJ2_indexOf_4cfef 4 (some .int), Cond.methodLink RJ2 224 Lib.Math.max.name]
def wsL_law_r9 : List Cond := [Cond.methodLink RJ2 183 Lib.Math.min.name, Cond.constant RJ2 227 (65536), Cond.methodLink RJ2 228 yJ2_indexOfChar_4cfef, Cond.static yJ2_indexOfChar_4cfef, Cond.code yJ2_indexOfChar_4cfef cJ2_indexOfChar_4cfef 4 (some .int), Cond.methodLink RJ2 96 yJ2_checkBoundsBeginEnd_d044e, Cond.static yJ2_checkBoundsBeginEnd_d044e, Cond.code yJ2_checkBoundsBeginEnd_d044e cJ2_checkBoundsBeginEnd_d044e 3 none, Cond.methodLink RJ2 241 yJ0_checkBoundsBeginEnd_23922, Cond.static yJ0_checkBoundsBeginEnd_23922, Cond.code yJ0_checkBoundsBeginEnd_23922 cJ0_checkBoundsBeginEnd_23922 3 none, Cond.methodLink RJ0 1062 yJ3_checkFromToIndex_8c36e, Cond.static yJ3_checkFromToIndex_8c36e, Cond.code yJ3_checkFromToIndex_8c36e cJ3_checkFromToIndex_8c36e 4 (some .int), Cond.methodLink RJ2 244 yJ2_indexOfCharUnsafe_4cfef, Cond.static yJ2_indexOfCharUnsafe_4cfef, Cond.code yJ2_indexOfCharUnsafe_4cfef cJ2_indexOfCharUnsafe_4cfef 5 (some .int), Cond.methodLink RJ2 232 yJ2_indexOfSupplementary_4cfef, Cond.static yJ2_indexOfSupplementary_4cfef, Cond.code yJ2_indexOfSupplementary_4cfef cJ2_indexOfSupplementary_4cfef 7 (some .int), Cond.methodLink RJ2 164 yJ11_isValidCodePoint_9a6ad, Cond.static yJ11_isValidCodePoint_9a6ad, Cond.initialized RJ11, Cond.code yJ11_isValidCodePoint_9a6ad cJ11_isValidCodePoint_9a6ad 2 (some .boolean)]
def wsL_law_r10 : List Cond := [Cond.methodLink RJ2 157 yJ11_highSurrogate_5068e, Cond.static yJ11_highSurrogate_5068e, Cond.code yJ11_highSurrogate_5068e cJ11_highSurrogate_5068e 1 (some .char), Cond.constant RJ11 110 (55232), Cond.methodLink RJ2 161 yJ11_lowSurrogate_5068e, Cond.static yJ11_lowSurrogate_5068e, Cond.code yJ11_lowSurrogate_5068e cJ11_lowSurrogate_5068e 1 (some .char), Cond.constant RJ11 76 (56320), Cond.methodLink RX4 134 yX1_takeFrom, Cond.instanceMethod yX1_takeFrom, Cond.selects RX1 yX1_takeFrom yX1_takeFrom, Cond.code yX1_takeFrom cX1_takeFrom 3 none, Cond.fieldLink RX1 22 "GritIsIssued$Office" "people" "I", Cond.fieldLink RX1 26 "GritIsIssued$Office" "store" "I", Cond.fieldLink RX1 29 "GritIsIssued$Office" "worn" "I", Cond.fieldLink RX1 32 "GritIsIssued$Office" "day" "I", Cond.methodLink RX1 35 yX1_at, Cond.instanceMethod yX1_at, Cond.selects RX1 yX1_at yX1_at, Cond.code yX1_at cX1_at 2 (some (.object "GritIsIssued$Person")), Cond.methodLink RX1 39 yX2_takeFrom, Cond.instanceMethod yX2_takeFrom, Cond.selects RX2 yX2_takeFrom yX2_takeFrom, Cond.code yX2_takeFrom cX2_takeFrom 2 none]
def wsL_law_r11 : List Cond := [Cond.fieldLink RX2 9 "GritIsIssued$Person" "kind" "I", Cond.fieldLink RX2 15 "GritIsIssued$Person" "figure" "I", Cond.fieldLink RX2 18 "GritIsIssued$Person" "has" "I", Cond.fieldLink RX2 21 "GritIsIssued$Person" "due" "I", Cond.fieldLink RX2 24 "GritIsIssued$Person" "through" "I", Cond.fieldLink RX2 27 "GritIsIssued$Person" "shorts" "I", Cond.fieldLink RX2 30 "GritIsIssued$Person" "passed" "I", Cond.fieldLink RX2 33 "GritIsIssued$Person" "missed" "I", Cond.methodLink RX4 242 yX4_comes, Cond.instanceMethod yX4_comes, Cond.selects RX4 yX4_comes yX4_comes, Cond.code yX4_comes cX4_comes 3 (some .boolean), Cond.methodLink RX4 248 yX3_number, Cond.instanceMethod yX3_number, Cond.selects RX3 yX3_number yX3_number, Cond.code yX3_number cX3_number 5 (some .int), Cond.methodLink RX4 251 yX3_letterAt, Cond.methodLink RX4 254 yX3_kindAt, Cond.methodLink RX4 257 yX1_welcome, Cond.instanceMethod yX1_welcome, Cond.selects RX1 yX1_welcome yX1_welcome, Cond.code yX1_welcome cX1_welcome 5 (some .boolean), Cond.fieldLink RX1 43 "GritIsIssued$Person" "kind" "I", Cond.fieldLink RX1 46 "GritIsIssued$Person" "figure" "I"]
def wsL_law_r12 : List Cond := [Cond.fieldLink RX1 49 "GritIsIssued$Person" "due" "I", Cond.methodLink RX4 107 yX1_issue, Cond.instanceMethod yX1_issue, Cond.selects RX1 yX1_issue yX1_issue, Cond.code yX1_issue cX1_issue 3 (some .boolean), Cond.fieldLink RX1 56 "GritIsIssued$Person" "has" "I", Cond.methodLink RX1 52 yX1_knows, Cond.instanceMethod yX1_knows, Cond.selects RX1 yX1_knows yX1_knows, Cond.code yX1_knows cX1_knows 2 (some .boolean), Cond.methodLink RX4 114 yX1_handIn, Cond.instanceMethod yX1_handIn, Cond.selects RX1 yX1_handIn yX1_handIn, Cond.code yX1_handIn cX1_handIn 3 (some .boolean), Cond.methodLink RX1 59 Lib.Math.min.name, Cond.methodLink RX1 65 yX1_wear, Cond.instanceMethod yX1_wear, Cond.selects RX1 yX1_wear yX1_wear, Cond.code yX1_wear cX1_wear 2 none, Cond.methodLink RX4 261 yX1_setDue, Cond.instanceMethod yX1_setDue, Cond.selects RX1 yX1_setDue yX1_setDue, Cond.code yX1_setDue cX1_setDue 3 (some .boolean), Cond.methodLink RX4 118 yX1_fill]
def wsL_law_r13 : List Cond := [Cond.instanceMethod yX1_fill, Cond.selects RX1 yX1_fill yX1_fill, Cond.code yX1_fill cX1_fill 2 (some .boolean), Cond.methodLink RX4 264 yX1_daysCome, Cond.instanceMethod yX1_daysCome, Cond.selects RX1 yX1_daysCome yX1_daysCome, Cond.code yX1_daysCome cX1_daysCome 2 (some .boolean), Cond.methodLink RX1 69 yX1_daysGoBy, Cond.instanceMethod yX1_daysGoBy, Cond.selects RX1 yX1_daysGoBy yX1_daysGoBy, Cond.code yX1_daysGoBy cX1_daysGoBy 4 none, Cond.methodLink RX1 72 yX2_oneDay, Cond.instanceMethod yX2_oneDay, Cond.selects RX2 yX2_oneDay yX2_oneDay, Cond.code yX2_oneDay cX2_oneDay 3 (some .int), Cond.methodLink RX2 51 Lib.Math.min.name, Cond.methodLink RX2 36 yX0_needs, Cond.static yX0_needs, Cond.initialized RX0, Cond.code yX0_needs cX0_needs 4 (some .int), Cond.methodLink RX2 54 yX0_wears, Cond.static yX0_wears, Cond.code yX0_wears cX0_wears 2 (some .int), Cond.methodLink RX2 57 yX0_nextIn]
def wsL_law_r14 : List Cond := [Cond.static yX0_nextIn, Cond.code yX0_nextIn cX0_nextIn 2 (some .int), Cond.methodLink RX4 245 yX3_lengthAt, Cond.instanceMethod yX3_lengthAt, Cond.selects RX3 yX3_lengthAt yX3_lengthAt, Cond.code yX3_lengthAt cX3_lengthAt 2 (some .int), Cond.methodLink RL 22 yX5_counter, Cond.instanceMethod yX5_counter, Cond.selects RX5 yX5_counter yX5_counter, Cond.code yX5_counter cX5_counter 6 (some .int), Cond.fieldLink RX5 83 "GritIsIssuedModel" "place" "I", Cond.methodLink RX5 115 yX5_readsStatement, Cond.instanceMethod yX5_readsStatement, Cond.selects RX5 yX5_readsStatement yX5_readsStatement, Cond.code yX5_readsStatement cX5_readsStatement 3 (some .boolean), Cond.methodLink RX5 86 yX5_here, Cond.instanceMethod yX5_here, Cond.selects RX5 yX5_here yX5_here, Cond.code yX5_here cX5_here 1 (some .int), Cond.methodLink RX5 93 yX5_readsKind, Cond.instanceMethod yX5_readsKind, Cond.selects RX5 yX5_readsKind yX5_readsKind, Cond.code yX5_readsKind cX5_readsKind 1 (some .boolean), Cond.methodLink RX5 90 yX5_kindBy]
def wsL_law_r15 : List Cond := [Cond.static yX5_kindBy, Cond.code yX5_kindBy cX5_kindBy 1 (some .int), Cond.methodLink RX5 97 yX5_readsNumber, Cond.instanceMethod yX5_readsNumber, Cond.selects RX5 yX5_readsNumber yX5_readsNumber, Cond.code yX5_readsNumber cX5_readsNumber 4 (some .boolean), Cond.methodLink RX5 41 yX5_isIn, Cond.static yX5_isIn, Cond.code yX5_isIn cX5_isIn 3 (some .boolean), Cond.methodLink RX5 118 yX5_copies, Cond.static yX5_copies, Cond.code yX5_copies cX5_copies 3 none, Cond.methodLink RX5 122 yX5_isDone, Cond.instanceMethod yX5_isDone, Cond.selects RX5 yX5_isDone yX5_isDone, Cond.code yX5_isDone cX5_isDone 4 (some .boolean), Cond.methodLink RX5 101 yX5_adds, Cond.instanceMethod yX5_adds, Cond.selects RX5 yX5_adds yX5_adds, Cond.code yX5_adds cX5_adds 6 (some .boolean), Cond.methodLink RX5 45 yX5_of, Cond.static yX5_of, Cond.code yX5_of cX5_of 2 (some .int), Cond.methodLink RX5 104 yX5_isOne]
def wsL_law_r16 : List Cond := [Cond.instanceMethod yX5_isOne, Cond.selects RX5 yX5_isOne yX5_isOne, Cond.code yX5_isOne cX5_isOne 2 (some .boolean), Cond.methodLink RX5 108 yX5_issuesIn, Cond.static yX5_issuesIn, Cond.code yX5_issuesIn cX5_issuesIn 3 none, Cond.methodLink RX5 112 yX5_handsIn, Cond.static yX5_handsIn, Cond.code yX5_handsIn cX5_handsIn 3 none, Cond.methodLink RX5 53 yX5_least, Cond.static yX5_least, Cond.code yX5_least cX5_least 2 (some .int), Cond.methodLink RX5 59 yX5_isGone, Cond.static yX5_isGone, Cond.code yX5_isGone cX5_isGone 2 none, Cond.methodLink RX5 73 yX5_daysOn, Cond.static yX5_daysOn, Cond.code yX5_daysOn cX5_daysOn 3 none, Cond.methodLink RX5 69 yX5_day, Cond.static yX5_day, Cond.code yX5_day cX5_day 2 none, Cond.methodLink RX5 66 yX5_meets, Cond.static yX5_meets, Cond.code yX5_meets cX5_meets 5 none]
def wsL_law_r17 : List Cond := [Cond.methodLink RX5 49 yX5_needs, Cond.static yX5_needs, Cond.code yX5_needs cX5_needs 3 (some .int), Cond.methodLink RX5 56 yX5_wears, Cond.static yX5_wears, Cond.code yX5_wears cX5_wears 2 (some .int), Cond.methodLink RX5 63 yX5_nextBy, Cond.static yX5_nextBy, Cond.code yX5_nextBy cX5_nextBy 1 (some .int), Cond.methodLink RL 23 yX4_person, Cond.instanceMethod yX4_person, Cond.selects RX4 yX4_person yX4_person, Cond.code yX4_person cX4_person 5 (some .int), Cond.fieldLink RX4 83 "GritIsIssued$Person" "kind" "I", Cond.fieldLink RX4 86 "GritIsIssued$Person" "figure" "I", Cond.fieldLink RX4 89 "GritIsIssued$Person" "has" "I", Cond.fieldLink RX4 92 "GritIsIssued$Person" "due" "I", Cond.fieldLink RX4 95 "GritIsIssued$Person" "through" "I", Cond.fieldLink RX4 98 "GritIsIssued$Person" "shorts" "I", Cond.methodLink RX4 69 yX4_unknown, Cond.instanceMethod yX4_unknown, Cond.selects RX4 yX4_unknown yX4_unknown, Cond.code yX4_unknown cX4_unknown 2 (some .int), Cond.methodLink RX4 226 yX1_knows]
def wsL_law_r18 : List Cond := [Cond.methodLink RX4 72 yX4_other, Cond.static yX4_other, Cond.code yX4_other cX4_other 2 (some .int), Cond.methodLink RX4 76 yX4_firstOf, Cond.static yX4_firstOf, Cond.code yX4_firstOf cX4_firstOf 3 (some .int), Cond.methodLink RX4 79 yX1_at, Cond.methodLink RX4 101 yX2_needed, Cond.instanceMethod yX2_needed, Cond.selects RX2 yX2_needed yX2_needed, Cond.code yX2_needed cX2_needed 1 (some .int), Cond.methodLink RX4 104 yX2_lacking, Cond.instanceMethod yX2_lacking, Cond.selects RX2 yX2_lacking yX2_lacking, Cond.code yX2_lacking cX2_lacking 1 (some .int), Cond.methodLink RX2 46 Lib.Math.max.name, Cond.methodLink RX2 42 yX2_needed, Cond.methodLink RL 27 yX5_person, Cond.instanceMethod yX5_person, Cond.selects RX5 yX5_person yX5_person, Cond.code yX5_person cX5_person 3 (some .int), Cond.methodLink RX5 125 yX5_lacksIn, Cond.static yX5_lacksIn, Cond.code yX5_lacksIn cX5_lacksIn 3 (some .int)]
def wsL_law_r19 : List Cond := [Cond.methodLink RL 28 yX4_issues, Cond.instanceMethod yX4_issues, Cond.selects RX4 yX4_issues yX4_issues, Cond.code yX4_issues cX4_issues 4 (some .int), Cond.fieldLink RX4 111 "GritIsIssued$Office" "store" "I", Cond.methodLink RL 31 yX5_issues, Cond.instanceMethod yX5_issues, Cond.selects RX5 yX5_issues yX5_issues, Cond.code yX5_issues cX5_issues 4 (some .int), Cond.methodLink RX5 128 yX5_wrongBy, Cond.static yX5_wrongBy, Cond.code yX5_wrongBy cX5_wrongBy 3 (some .int), Cond.methodLink RL 32 yX4_returns, Cond.instanceMethod yX4_returns, Cond.selects RX4 yX4_returns yX4_returns, Cond.code yX4_returns cX4_returns 3 (some .int), Cond.methodLink RL 35 yX5_returns, Cond.instanceMethod yX5_returns, Cond.selects RX5 yX5_returns yX5_returns, Cond.code yX5_returns cX5_returns 2 (some .int), Cond.methodLink RL 36 yX4_due, Cond.instanceMethod yX4_due, Cond.selects RX4 yX4_due yX4_due, Cond.code yX4_due cX4_due 6 (some .int)]
def wsL_law_r20 : List Cond := [Cond.methodLink RL 39 yX5_due, Cond.instanceMethod yX5_due, Cond.selects RX5 yX5_due yX5_due, Cond.code yX5_due cX5_due 5 (some .int), Cond.methodLink RL 40 yX4_fills, Cond.instanceMethod yX4_fills, Cond.selects RX4 yX4_fills yX4_fills, Cond.code yX4_fills cX4_fills 3 (some .int), Cond.methodLink RL 43 yX5_fills, Cond.instanceMethod yX5_fills, Cond.selects RX5 yX5_fills yX5_fills, Cond.code yX5_fills cX5_fills 3 (some .int), Cond.methodLink RL 44 yX4_turn, Cond.instanceMethod yX4_turn, Cond.selects RX4 yX4_turn yX4_turn, Cond.code yX4_turn cX4_turn 7 (some .int), Cond.methodLink RL 48 yX5_turn, Cond.instanceMethod yX5_turn, Cond.selects RX5 yX5_turn yX5_turn, Cond.code yX5_turn cX5_turn 6 (some .int), Cond.methodLink RL 49 yX4_days, Cond.instanceMethod yX4_days, Cond.selects RX4 yX4_days yX4_days, Cond.code yX4_days cX4_days 4 (some .int)]
def wsL_law_r21 : List Cond := [Cond.fieldLink RX4 121 "GritIsIssued$Office" "day" "I", Cond.methodLink RX4 124 yX1_allThrough, Cond.instanceMethod yX1_allThrough, Cond.selects RX1 yX1_allThrough yX1_allThrough, Cond.code yX1_allThrough cX1_allThrough 3 (some .int), Cond.fieldLink RX1 86 "GritIsIssued$Person" "through" "I", Cond.methodLink RX4 127 yX1_daysGoBy, Cond.methodLink RL 52 yX5_days, Cond.instanceMethod yX5_days, Cond.selects RX5 yX5_days yX5_days, Cond.code yX5_days cX5_days 3 (some .int), Cond.methodLink RX5 76 yX5_allOf, Cond.static yX5_allOf, Cond.code yX5_allOf cX5_allOf 4 (some .int), Cond.methodLink RL 53 yX4_personThen, Cond.instanceMethod yX4_personThen, Cond.selects RX4 yX4_personThen yX4_personThen, Cond.code yX4_personThen cX4_personThen 7 (some .int), Cond.methodLink RX4 130 yX4_thought, Cond.instanceMethod yX4_thought, Cond.selects RX4 yX4_thought yX4_thought, Cond.code yX4_thought cX4_thought 5 (some (.object "GritIsIssued$Person")), Cond.methodLink RX4 147 yX2_takeFrom, Cond.methodLink RX4 153 yX2_oneDay]
def wsL_law_r22 : List Cond := [Cond.methodLink RL 56 yX5_personThen, Cond.instanceMethod yX5_personThen, Cond.selects RX5 yX5_personThen yX5_personThen, Cond.code yX5_personThen cX5_personThen 5 (some .int), Cond.methodLink RX5 132 yX5_takes, Cond.instanceMethod yX5_takes, Cond.selects RX5 yX5_takes yX5_takes, Cond.code yX5_takes cX5_takes 2 none, Cond.methodLink RL 57 yX4_allThen, Cond.instanceMethod yX4_allThen, Cond.selects RX4 yX4_allThen yX4_allThen, Cond.code yX4_allThen cX4_allThen 4 (some .int), Cond.fieldLink RX4 141 "GritIsIssued$Office" "worn" "I", Cond.methodLink RX4 138 yX1_allShort, Cond.instanceMethod yX1_allShort, Cond.selects RX1 yX1_allShort yX1_allShort, Cond.code yX1_allShort cX1_allShort 3 (some .int), Cond.fieldLink RX1 89 "GritIsIssued$Person" "shorts" "I", Cond.methodLink RL 60 yX5_allThen, Cond.instanceMethod yX5_allThen, Cond.selects RX5 yX5_allThen yX5_allThen, Cond.code yX5_allThen cX5_allThen 4 (some .int), Cond.methodLink RL 61 yX4_first, Cond.instanceMethod yX4_first]
def wsL_law_r23 : List Cond := [Cond.selects RX4 yX4_first yX4_first, Cond.code yX4_first cX4_first 5 (some .int), Cond.methodLink RX4 144 yX1_firstMissing, Cond.instanceMethod yX1_firstMissing, Cond.selects RX1 yX1_firstMissing yX1_firstMissing, Cond.code yX1_firstMissing cX1_firstMissing 2 (some .int), Cond.fieldLink RX1 83 "GritIsIssued$Person" "missed" "I", Cond.methodLink RL 64 yX5_first, Cond.instanceMethod yX5_first, Cond.selects RX5 yX5_first yX5_first, Cond.code yX5_first cX5_first 4 (some .int), Cond.methodLink RX5 136 yX5_isShortOn, Cond.instanceMethod yX5_isShortOn, Cond.selects RX5 yX5_isShortOn yX5_isShortOn, Cond.code yX5_isShortOn cX5_isShortOn 2 (some .boolean), Cond.methodLink RL 65 yX4_lasts, Cond.instanceMethod yX4_lasts, Cond.selects RX4 yX4_lasts yX4_lasts, Cond.code yX4_lasts cX4_lasts 4 (some .int), Cond.fieldLink RX4 150 "GritIsIssued$Person" "missed" "I", Cond.fieldLink RX4 156 "GritIsIssued$Person" "passed" "I", Cond.methodLink RL 68 yX5_lasts, Cond.instanceMethod yX5_lasts, Cond.selects RX5 yX5_lasts yX5_lasts]
def wsL_law_r24 : List Cond := [Cond.code yX5_lasts cX5_lasts 4 (some .int), Cond.methodLink RX5 139 yX5_isThroughOn, Cond.instanceMethod yX5_isThroughOn, Cond.selects RX5 yX5_isThroughOn yX5_isThroughOn, Cond.code yX5_isThroughOn cX5_isThroughOn 2 (some .boolean), Cond.methodLink RL 69 yX4_lacks, Cond.instanceMethod yX4_lacks, Cond.selects RX4 yX4_lacks yX4_lacks, Cond.code yX4_lacks cX4_lacks 3 (some .int), Cond.fieldLink RX4 159 "GritIsIssued$Office" "people" "I", Cond.methodLink RL 72 yX5_lacks, Cond.instanceMethod yX5_lacks, Cond.selects RX5 yX5_lacks yX5_lacks, Cond.code yX5_lacks cX5_lacks 3 (some .int), Cond.methodLink RL 73 yX4_next, Cond.instanceMethod yX4_next, Cond.selects RX4 yX4_next yX4_next, Cond.code yX4_next cX4_next 7 (some .int), Cond.methodLink RL 76 yX5_next, Cond.instanceMethod yX5_next, Cond.selects RX5 yX5_next yX5_next, Cond.code yX5_next cX5_next 4 (some .int), Cond.methodLink RL 77 yX4_enough, Cond.instanceMethod yX4_enough]
def wsL_law_r25 : List Cond := [Cond.selects RX4 yX4_enough yX4_enough, Cond.code yX4_enough cX4_enough 5 (some .int), Cond.methodLink RL 80 yX5_enough, Cond.instanceMethod yX5_enough, Cond.selects RX5 yX5_enough yX5_enough, Cond.code yX5_enough cX5_enough 5 (some .int), Cond.methodLink RX5 142 yX5_isShortWithin, Cond.instanceMethod yX5_isShortWithin, Cond.selects RX5 yX5_isShortWithin yX5_isShortWithin, Cond.code yX5_isShortWithin cX5_isShortWithin 4 (some .boolean), Cond.methodLink RL 81 yX4_serve, Cond.instanceMethod yX4_serve, Cond.selects RX4 yX4_serve yX4_serve, Cond.code yX4_serve cX4_serve 7 (some .int), Cond.methodLink RX4 162 yJ6_bitCount_0f7a4, Cond.static yJ6_bitCount_0f7a4, Cond.initialized RJ6, Cond.code yJ6_bitCount_0f7a4 cJ6_bitCount_0f7a4 1 (some .int), Cond.constant RJ6 265 (1431655765), Cond.constant RJ6 266 (858993459), Cond.constant RJ6 267 (252645135), Cond.methodLink RX4 167 yX1_lackAll, Cond.instanceMethod yX1_lackAll, Cond.selects RX1 yX1_lackAll yX1_lackAll]
def wsL_law_r26 : List Cond := [Cond.code yX1_lackAll cX1_lackAll 3 (some .boolean), Cond.methodLink RX1 76 yX2_lacking, Cond.methodLink RX4 170 yX1_lackOf, Cond.instanceMethod yX1_lackOf, Cond.selects RX1 yX1_lackOf yX1_lackOf, Cond.code yX1_lackOf cX1_lackOf 4 (some .int), Cond.methodLink RL 84 yX5_serve, Cond.instanceMethod yX5_serve, Cond.selects RX5 yX5_serve yX5_serve, Cond.code yX5_serve cX5_serve 5 (some .int), Cond.methodLink RX5 148 yX5_lacking, Cond.instanceMethod yX5_lacking, Cond.selects RX5 yX5_lacking yX5_lacking, Cond.code yX5_lacking cX5_lacking 3 (some .int), Cond.methodLink RX5 151 yX5_bits, Cond.static yX5_bits, Cond.code yX5_bits cX5_bits 3 (some .int), Cond.methodLink RX5 154 yX5_lacksOf, Cond.instanceMethod yX5_lacksOf, Cond.selects RX5 yX5_lacksOf yX5_lacksOf, Cond.code yX5_lacksOf cX5_lacksOf 4 (some .int), Cond.methodLink RX5 145 yX5_has, Cond.static yX5_has, Cond.code yX5_has cX5_has 2 (some .boolean)]
def wsL_law_r27 : List Cond := [Cond.methodLink RL 85 yX4_best, Cond.instanceMethod yX4_best, Cond.selects RX4 yX4_best yX4_best, Cond.code yX4_best cX4_best 8 (some .int), Cond.methodLink RX4 173 yX4_weigh, Cond.instanceMethod yX4_weigh, Cond.selects RX4 yX4_weigh yX4_weigh, Cond.code yX4_weigh cX4_weigh 5 none, Cond.methodLink RX4 182 yX4_throughMore, Cond.instanceMethod yX4_throughMore, Cond.selects RX4 yX4_throughMore yX4_throughMore, Cond.code yX4_throughMore cX4_throughMore 4 (some .int), Cond.methodLink RX4 176 yX4_throughOf, Cond.instanceMethod yX4_throughOf, Cond.selects RX4 yX4_throughOf yX4_throughOf, Cond.code yX4_throughOf cX4_throughOf 7 (some .int), Cond.methodLink RX4 267 yX4_weighed, Cond.instanceMethod yX4_weighed, Cond.selects RX4 yX4_weighed yX4_weighed, Cond.code yX4_weighed cX4_weighed 3 (some .int), Cond.methodLink RL 88 yX5_best, Cond.instanceMethod yX5_best, Cond.selects RX5 yX5_best yX5_best, Cond.code yX5_best cX5_best 9 (some .int)]
def wsL_law_r28 : List Cond := [Cond.methodLink RX5 157 yX5_signs, Cond.instanceMethod yX5_signs, Cond.selects RX5 yX5_signs yX5_signs, Cond.code yX5_signs cX5_signs 3 (some .int), Cond.methodLink RX5 160 yX5_throughBehind, Cond.instanceMethod yX5_throughBehind, Cond.selects RX5 yX5_throughBehind yX5_throughBehind, Cond.code yX5_throughBehind cX5_throughBehind 2 (some .int), Cond.methodLink RL 89 yX4_run, Cond.instanceMethod yX4_run, Cond.selects RX4 yX4_run yX4_run, Cond.code yX4_run cX4_run 5 (some .int), Cond.methodLink RX4 179 yX1_issueAhead, Cond.instanceMethod yX1_issueAhead, Cond.selects RX1 yX1_issueAhead yX1_issueAhead, Cond.code yX1_issueAhead cX1_issueAhead 3 (some .int), Cond.methodLink RX1 79 yX1_issue, Cond.methodLink RL 92 yX5_run, Cond.instanceMethod yX5_run, Cond.selects RX5 yX5_run yX5_run, Cond.code yX5_run cX5_run 4 (some .int), Cond.methodLink RX5 163 yX5_refusesOne, Cond.instanceMethod yX5_refusesOne, Cond.selects RX5 yX5_refusesOne yX5_refusesOne]
def wsL_law_r29 : List Cond := [Cond.code yX5_refusesOne cX5_refusesOne 3 (some .int), Cond.methodLink RL 93 yX4_stock, Cond.instanceMethod yX4_stock, Cond.selects RX4 yX4_stock yX4_stock, Cond.code yX4_stock cX4_stock 4 (some .int), Cond.methodLink RL 96 yX5_stock, Cond.instanceMethod yX5_stock, Cond.selects RX5 yX5_stock yX5_stock, Cond.code yX5_stock cX5_stock 4 (some .int), Cond.methodLink RX5 166 yX5_servesAll, Cond.instanceMethod yX5_servesAll, Cond.selects RX5 yX5_servesAll yX5_servesAll, Cond.code yX5_servesAll cX5_servesAll 4 (some .boolean), Cond.methodLink RL 97 yX4_borrow, Cond.instanceMethod yX4_borrow, Cond.selects RX4 yX4_borrow yX4_borrow, Cond.code yX4_borrow cX4_borrow 12 (some .int), Cond.methodLink RL 100 yX5_borrow, Cond.instanceMethod yX5_borrow, Cond.selects RX5 yX5_borrow yX5_borrow, Cond.code yX5_borrow cX5_borrow 10 (some .int), Cond.methodLink RX5 169 yX5_throughOf, Cond.instanceMethod yX5_throughOf, Cond.selects RX5 yX5_throughOf yX5_throughOf]
def wsL_law_r30 : List Cond := [Cond.code yX5_throughOf cX5_throughOf 3 (some .int), Cond.methodLink RL 101 yX4_sweep, Cond.instanceMethod yX4_sweep, Cond.selects RX4 yX4_sweep yX4_sweep, Cond.code yX4_sweep cX4_sweep 9 (some .int), Cond.methodLink RX4 185 yX4_shortMore, Cond.instanceMethod yX4_shortMore, Cond.selects RX4 yX4_shortMore yX4_shortMore, Cond.code yX4_shortMore cX4_shortMore 4 (some .int), Cond.methodLink RL 104 yX5_sweep, Cond.instanceMethod yX5_sweep, Cond.selects RX5 yX5_sweep yX5_sweep, Cond.code yX5_sweep cX5_sweep 9 (some .int), Cond.constant RX5 34 (1000000000), Cond.methodLink RL 105 yX4_grain, Cond.instanceMethod yX4_grain, Cond.selects RX4 yX4_grain yX4_grain, Cond.code yX4_grain cX4_grain 8 (some .int), Cond.methodLink RL 108 yX5_grain, Cond.instanceMethod yX5_grain, Cond.selects RX5 yX5_grain yX5_grain, Cond.code yX5_grain cX5_grain 7 (some .int), Cond.methodLink RL 109 yX4_shares, Cond.instanceMethod yX4_shares]
def wsL_law_r31 : List Cond := [Cond.selects RX4 yX4_shares yX4_shares, Cond.code yX4_shares cX4_shares 3 (some .int), Cond.methodLink RL 112 yX5_shares, Cond.instanceMethod yX5_shares, Cond.selects RX5 yX5_shares yX5_shares, Cond.code yX5_shares cX5_shares 3 (some .int), Cond.methodLink RL 113 yX4_richest, Cond.instanceMethod yX4_richest, Cond.selects RX4 yX4_richest yX4_richest, Cond.code yX4_richest cX4_richest 5 (some .int), Cond.methodLink RL 116 yX5_richest, Cond.instanceMethod yX5_richest, Cond.selects RX5 yX5_richest yX5_richest, Cond.code yX5_richest cX5_richest 3 (some .int), Cond.methodLink RL 117 yX4_trusted, Cond.instanceMethod yX4_trusted, Cond.selects RX4 yX4_trusted yX4_trusted, Cond.code yX4_trusted cX4_trusted 4 (some .int), Cond.constant RX4 188 (1000000000), Cond.methodLink RL 120 yX5_trusted, Cond.instanceMethod yX5_trusted, Cond.selects RX5 yX5_trusted yX5_trusted, Cond.code yX5_trusted cX5_trusted 2 (some .int), Cond.methodLink RX5 172 yX5_noFar]
def wsL_law_r32 : List Cond := [Cond.instanceMethod yX5_noFar, Cond.selects RX5 yX5_noFar yX5_noFar, Cond.code yX5_noFar cX5_noFar 2 (some .int), Cond.methodLink RL 121 yX4_worth, Cond.instanceMethod yX4_worth, Cond.selects RX4 yX4_worth yX4_worth, Cond.code yX4_worth cX4_worth 1 (some .int), Cond.methodLink RL 124 yX5_worth, Cond.instanceMethod yX5_worth, Cond.selects RX5 yX5_worth yX5_worth, Cond.code yX5_worth cX5_worth 1 (some .int), Cond.methodLink RL 125 yX4_two, Cond.instanceMethod yX4_two, Cond.selects RX4 yX4_two yX4_two, Cond.code yX4_two cX4_two 9 (some .int), Cond.methodLink RX4 189 yX4_firstWants, Cond.instanceMethod yX4_firstWants, Cond.selects RX4 yX4_firstWants yX4_firstWants, Cond.code yX4_firstWants cX4_firstWants 3 (some .int), Cond.methodLink RX4 271 yX4_wants, Cond.instanceMethod yX4_wants, Cond.selects RX4 yX4_wants yX4_wants, Cond.code yX4_wants cX4_wants 6 (some .int), Cond.methodLink RX4 192 yX4_otherWants]
def wsL_law_r33 : List Cond := [Cond.instanceMethod yX4_otherWants, Cond.selects RX4 yX4_otherWants yX4_otherWants, Cond.code yX4_otherWants cX4_otherWants 7 (some .int), Cond.methodLink RL 128 yX5_two, Cond.instanceMethod yX5_two, Cond.selects RX5 yX5_two yX5_two, Cond.code yX5_two cX5_two 8 (some .int), Cond.methodLink RX5 175 yX5_ownBy, Cond.instanceMethod yX5_ownBy, Cond.selects RX5 yX5_ownBy yX5_ownBy, Cond.code yX5_ownBy cX5_ownBy 9 (some .int), Cond.methodLink RL 129 yX4_slip, Cond.instanceMethod yX4_slip, Cond.selects RX4 yX4_slip yX4_slip, Cond.code yX4_slip cX4_slip 12 (some .long), Cond.constantLong RX4 196 (4000000000000000000), Cond.methodLink RX4 198 yX4_throughLosing, Cond.instanceMethod yX4_throughLosing, Cond.selects RX4 yX4_throughLosing yX4_throughLosing, Cond.code yX4_throughLosing cX4_throughLosing 6 (some .int), Cond.methodLink RX4 201 yX4_power, Cond.static yX4_power, Cond.code yX4_power cX4_power 6 (some .long), Cond.methodLink RX4 205 yX4_leastTerms]
def wsL_law_r34 : List Cond := [Cond.static yX4_leastTerms, Cond.code yX4_leastTerms cX4_leastTerms 12 (some .long), Cond.methodLink RL 133 yX5_slip, Cond.instanceMethod yX5_slip, Cond.selects RX5 yX5_slip yX5_slip, Cond.code yX5_slip cX5_slip 14 (some .long), Cond.methodLink RX5 183 yX5_noWide, Cond.instanceMethod yX5_noWide, Cond.selects RX5 yX5_noWide yX5_noWide, Cond.code yX5_noWide cX5_noWide 2 (some .long), Cond.constantLong RX5 39 (4000000000000000000), Cond.methodLink RX5 187 yX5_partOf, Cond.static yX5_partOf, Cond.code yX5_partOf cX5_partOf 5 (some .long), Cond.methodLink RX5 179 yX5_gcd, Cond.static yX5_gcd, Cond.code yX5_gcd cX5_gcd 10 (some .long), Cond.methodLink RL 134 yX4_mean, Cond.instanceMethod yX4_mean, Cond.selects RX4 yX4_mean yX4_mean, Cond.code yX4_mean cX4_mean 3 (some .long), Cond.methodLink RX4 209 yX1_allHas, Cond.instanceMethod yX1_allHas, Cond.selects RX1 yX1_allHas yX1_allHas]
def wsL_law_r35 : List Cond := [Cond.code yX1_allHas cX1_allHas 3 (some .int), Cond.methodLink RL 138 yX5_mean, Cond.instanceMethod yX5_mean, Cond.selects RX5 yX5_mean yX5_mean, Cond.code yX5_mean cX5_mean 2 (some .long), Cond.methodLink RL 139 yX4_whatIs, Cond.instanceMethod yX4_whatIs, Cond.selects RX4 yX4_whatIs yX4_whatIs, Cond.code yX4_whatIs cX4_whatIs 7 (some .int), Cond.methodLink RX4 214 yJ0_length_8abf5, Cond.methodLink RX4 219 yX4_rowIsOfTrial, Cond.instanceMethod yX4_rowIsOfTrial, Cond.selects RX4 yX4_rowIsOfTrial yX4_rowIsOfTrial, Cond.code yX4_rowIsOfTrial cX4_rowIsOfTrial 2 (some .boolean), Cond.fieldLink RX4 223 "GritIsIssued" "rowCount" "I", Cond.methodLink RL 142 yX5_whatIs, Cond.instanceMethod yX5_whatIs, Cond.selects RX5 yX5_whatIs yX5_whatIs, Cond.code yX5_whatIs cX5_whatIs 7 (some .int), Cond.fieldLink RX5 191 "GritIsIssuedModel" "rowMany" "I", Cond.methodLink RL 143 yX4_row, Cond.instanceMethod yX4_row, Cond.selects RX4 yX4_row yX4_row, Cond.code yX4_row cX4_row 3 (some .int)]
def wsL_law_r36 : List Cond := [Cond.methodLink RL 146 yX5_row, Cond.instanceMethod yX5_row, Cond.selects RX5 yX5_row yX5_row, Cond.code yX5_row cX5_row 3 (some .int), Cond.methodLink RL 147 yX4_judge, Cond.instanceMethod yX4_judge, Cond.selects RX4 yX4_judge yX4_judge, Cond.code yX4_judge cX4_judge 3 (some .int), Cond.methodLink RL 150 yX5_judge, Cond.instanceMethod yX5_judge, Cond.selects RX5 yX5_judge yX5_judge, Cond.code yX5_judge cX5_judge 3 (some .int), Cond.methodLink RL 151 yX4_clear, Cond.instanceMethod yX4_clear, Cond.selects RX4 yX4_clear yX4_clear, Cond.code yX4_clear cX4_clear 2 (some .int), Cond.methodLink RL 154 yX5_clear, Cond.instanceMethod yX5_clear, Cond.selects RX5 yX5_clear yX5_clear, Cond.code yX5_clear cX5_clear 2 (some .int), Cond.methodLink RL 155 yX4_lots, Cond.instanceMethod yX4_lots, Cond.selects RX4 yX4_lots yX4_lots, Cond.code yX4_lots cX4_lots 9 (some .int)]
def wsL_law_r37 : List Cond := [Cond.constant RX4 229 (1664525), Cond.constant RX4 230 (1013904223), Cond.constant RX4 231 (2147483647), Cond.methodLink RL 158 yX5_lots, Cond.instanceMethod yX5_lots, Cond.selects RX5 yX5_lots yX5_lots, Cond.code yX5_lots cX5_lots 7 (some .int), Cond.fieldLink RX5 194 "GritIsIssuedModel" "seed" "I", Cond.methodLink RX5 200 yX5_drawn, Cond.instanceMethod yX5_drawn, Cond.selects RX5 yX5_drawn yX5_drawn, Cond.code yX5_drawn cX5_drawn 2 (some .int), Cond.constant RX5 197 (1664525), Cond.constant RX5 198 (1013904223), Cond.constant RX5 199 (2147483647), Cond.methodLink RL 159 yX4_image, Cond.instanceMethod yX4_image, Cond.selects RX4 yX4_image yX4_image, Cond.code yX4_image cX4_image 1 (some .int), Cond.fieldLink RX4 232 "GritIsIssued" "hasImage" "Z", Cond.methodLink RL 162 yX5_image, Cond.instanceMethod yX5_image, Cond.selects RX5 yX5_image yX5_image, Cond.code yX5_image cX5_image 1 (some .int)]
def wsL_law_r38 : List Cond := [Cond.fieldLink RX5 203 "GritIsIssuedModel" "hasImage" "Z", Cond.methodLink RL 163 yX4_on, Cond.instanceMethod yX4_on, Cond.selects RX4 yX4_on yX4_on, Cond.code yX4_on cX4_on 1 (some .int), Cond.methodLink RL 166 yX5_on, Cond.instanceMethod yX5_on, Cond.selects RX5 yX5_on yX5_on, Cond.code yX5_on cX5_on 1 (some .int), Cond.methodLink RL 167 yX4_count, Cond.instanceMethod yX4_count, Cond.selects RX4 yX4_count yX4_count, Cond.code yX4_count cX4_count 3 (some .int), Cond.methodLink RX4 236 yX1_allWithMatter, Cond.instanceMethod yX1_allWithMatter, Cond.selects RX1 yX1_allWithMatter yX1_allWithMatter, Cond.code yX1_allWithMatter cX1_allWithMatter 3 (some .int), Cond.methodLink RL 170 yX5_count, Cond.instanceMethod yX5_count, Cond.selects RX5 yX5_count yX5_count, Cond.code yX5_count cX5_count 4 (some .int)]
def wsL_law : List Cond := (wsL_law_r1 ++ (wsL_law_r2 ++ (wsL_law_r3 ++ (wsL_law_r4 ++ (wsL_law_r5 ++ (wsL_law_r6 ++ (wsL_law_r7 ++ (wsL_law_r8 ++ (wsL_law_r9 ++ (wsL_law_r10 ++ (wsL_law_r11 ++ (wsL_law_r12 ++ (wsL_law_r13 ++ (wsL_law_r14 ++ (wsL_law_r15 ++ (wsL_law_r16 ++ (wsL_law_r17 ++ (wsL_law_r18 ++ (wsL_law_r19 ++ (wsL_law_r20 ++ (wsL_law_r21 ++ (wsL_law_r22 ++ (wsL_law_r23 ++ (wsL_law_r24 ++ (wsL_law_r25 ++ (wsL_law_r26 ++ (wsL_law_r27 ++ (wsL_law_r28 ++ (wsL_law_r29 ++ (wsL_law_r30 ++ (wsL_law_r31 ++ (wsL_law_r32 ++ (wsL_law_r33 ++ (wsL_law_r34 ++ (wsL_law_r35 ++ (wsL_law_r36 ++ (wsL_law_r37 ++ wsL_law_r38))))))))))))))))))))))))))))))))))))) ++ wsX40 ++ wsX50 ++ wsX10 ++ wsX20 ++ wsX30 ++ ([] : List Cond)
theorem inJ11 : ∀ w ∈ wsJ110, w ∈ lw_tbl := by decide +kernel
theorem inJ6 : ∀ w ∈ wsJ60, w ∈ lw_tbl := by decide +kernel
theorem inJ9 : ∀ w ∈ wsJ90, w ∈ lw_tbl := by decide +kernel
theorem inJ0 : ∀ w ∈ wsJ00, w ∈ lw_tbl := by decide +kernel
theorem inJ1 : ∀ w ∈ wsJ10, w ∈ lw_tbl := by decide +kernel
theorem inJ2 : ∀ w ∈ wsJ20, w ∈ lw_tbl := by decide +kernel
theorem inJ3 : ∀ w ∈ wsJ30, w ∈ lw_tbl := by decide +kernel
theorem dX0_needs_0 : decode cX0_needs 0 = .ok (.iload_n 1, 1) := by decide +kernel
theorem dX0_needs_1 : decode cX0_needs 1 = .ok (.iconst 1, 1) := by decide +kernel
theorem dX0_needs_2 : decode cX0_needs 2 = .ok (.iadd, 1) := by decide +kernel
theorem dX0_needs_3 : decode cX0_needs 3 = .ok (.istore_n 2, 1) := by decide +kernel
theorem dX0_needs_4 : decode cX0_needs 4 = .ok (.iload_n 2, 1) := by decide +kernel
theorem dX0_needs_5 : decode cX0_needs 5 = .ok (.iconst 4, 1) := by decide +kernel
theorem dX0_needs_6 : decode cX0_needs 6 = .ok (.iadd, 1) := by decide +kernel
theorem dX0_needs_7 : decode cX0_needs 7 = .ok (.istore_n 3, 1) := by decide +kernel
theorem dX0_needs_8 : decode cX0_needs 8 = .ok (.iload_n 0, 1) := by decide +kernel
theorem dX0_needs_9 : decode cX0_needs 9 = .ok (.tableswitch 52 1 5 #[35, 37, 41, 45, 50], 35) := by decide +kernel
theorem dX0_needs_44 : decode cX0_needs 44 = .ok (.iload_n 3, 1) := by decide +kernel
theorem dX0_needs_45 : decode cX0_needs 45 = .ok (.ireturn, 1) := by decide +kernel
theorem dX0_needs_46 : decode cX0_needs 46 = .ok (.iload_n 2, 1) := by decide +kernel
theorem dX0_needs_47 : decode cX0_needs 47 = .ok (.iconst 2, 1) := by decide +kernel
theorem dX0_needs_48 : decode cX0_needs 48 = .ok (.imul, 1) := by decide +kernel
theorem dX0_needs_49 : decode cX0_needs 49 = .ok (.ireturn, 1) := by decide +kernel
theorem dX0_needs_50 : decode cX0_needs 50 = .ok (.iload_n 2, 1) := by decide +kernel
theorem dX0_needs_51 : decode cX0_needs 51 = .ok (.iconst 2, 1) := by decide +kernel
theorem dX0_needs_52 : decode cX0_needs 52 = .ok (.idiv, 1) := by decide +kernel
theorem dX0_needs_53 : decode cX0_needs 53 = .ok (.ireturn, 1) := by decide +kernel
theorem dX0_needs_54 : decode cX0_needs 54 = .ok (.iload_n 3, 1) := by decide +kernel
theorem dX0_needs_55 : decode cX0_needs 55 = .ok (.bipush 10, 2) := by decide +kernel
theorem dX0_needs_57 : decode cX0_needs 57 = .ok (.iadd, 1) := by decide +kernel
theorem dX0_needs_58 : decode cX0_needs 58 = .ok (.ireturn, 1) := by decide +kernel
theorem dX0_needs_59 : decode cX0_needs 59 = .ok (.iconst 1, 1) := by decide +kernel
theorem dX0_needs_60 : decode cX0_needs 60 = .ok (.ireturn, 1) := by decide +kernel
theorem dX0_needs_61 : decode cX0_needs 61 = .ok (.iload_n 2, 1) := by decide +kernel
theorem dX0_needs_62 : decode cX0_needs 62 = .ok (.ireturn, 1) := by decide +kernel
theorem dX0_wears_0 : decode cX0_wears 0 = .ok (.iload_n 0, 1) := by decide +kernel
theorem dX0_wears_1 : decode cX0_wears 1 = .ok (.tableswitch 41 2 5 #[31, 33, 35, 39], 31) := by decide +kernel
theorem dX0_wears_32 : decode cX0_wears 32 = .ok (.iload_n 1, 1) := by decide +kernel
theorem dX0_wears_33 : decode cX0_wears 33 = .ok (.ireturn, 1) := by decide +kernel
theorem dX0_wears_34 : decode cX0_wears 34 = .ok (.iconst 1, 1) := by decide +kernel
theorem dX0_wears_35 : decode cX0_wears 35 = .ok (.ireturn, 1) := by decide +kernel
theorem dX0_wears_36 : decode cX0_wears 36 = .ok (.iload_n 1, 1) := by decide +kernel
theorem dX0_wears_37 : decode cX0_wears 37 = .ok (.iconst 3, 1) := by decide +kernel
theorem dX0_wears_38 : decode cX0_wears 38 = .ok (.idiv, 1) := by decide +kernel
theorem dX0_wears_39 : decode cX0_wears 39 = .ok (.ireturn, 1) := by decide +kernel
theorem dX0_wears_40 : decode cX0_wears 40 = .ok (.iconst 0, 1) := by decide +kernel
theorem dX0_wears_41 : decode cX0_wears 41 = .ok (.ireturn, 1) := by decide +kernel
theorem dX0_wears_42 : decode cX0_wears 42 = .ok (.iload_n 1, 1) := by decide +kernel
theorem dX0_wears_43 : decode cX0_wears 43 = .ok (.iconst 2, 1) := by decide +kernel
theorem dX0_wears_44 : decode cX0_wears 44 = .ok (.idiv, 1) := by decide +kernel
theorem dX0_wears_45 : decode cX0_wears 45 = .ok (.ireturn, 1) := by decide +kernel
theorem dX0_nextIn_0 : decode cX0_nextIn 0 = .ok (.bipush 7, 2) := by decide +kernel
theorem dX0_nextIn_2 : decode cX0_nextIn 2 = .ok (.istore_n 1, 1) := by decide +kernel
theorem dX0_nextIn_3 : decode cX0_nextIn 3 = .ok (.iload_n 0, 1) := by decide +kernel
theorem dX0_nextIn_4 : decode cX0_nextIn 4 = .ok (.tableswitch 47 1 5 #[36, 38, 47, 41, 43], 36) := by decide +kernel
theorem dX0_nextIn_40 : decode cX0_nextIn 40 = .ok (.iconst 1, 1) := by decide +kernel
theorem dX0_nextIn_41 : decode cX0_nextIn 41 = .ok (.ireturn, 1) := by decide +kernel
theorem dX0_nextIn_42 : decode cX0_nextIn 42 = .ok (.bipush 30, 2) := by decide +kernel
theorem dX0_nextIn_44 : decode cX0_nextIn 44 = .ok (.ireturn, 1) := by decide +kernel
theorem dX0_nextIn_45 : decode cX0_nextIn 45 = .ok (.iconst 0, 1) := by decide +kernel
theorem dX0_nextIn_46 : decode cX0_nextIn 46 = .ok (.ireturn, 1) := by decide +kernel
theorem dX0_nextIn_47 : decode cX0_nextIn 47 = .ok (.iload_n 1, 1) := by decide +kernel
theorem dX0_nextIn_48 : decode cX0_nextIn 48 = .ok (.iconst 1, 1) := by decide +kernel
theorem dX0_nextIn_49 : decode cX0_nextIn 49 = .ok (.iadd, 1) := by decide +kernel
theorem dX0_nextIn_50 : decode cX0_nextIn 50 = .ok (.ireturn, 1) := by decide +kernel
theorem dX0_nextIn_51 : decode cX0_nextIn 51 = .ok (.iload_n 1, 1) := by decide +kernel
theorem dX0_nextIn_52 : decode cX0_nextIn 52 = .ok (.ireturn, 1) := by decide +kernel
abbrev vwCl : List vw_C := [(RX1, TX1, 6), (RX2, TX2, 8), (RX3, TX3, 2), (RX4, TX4, 11), (RX5, TX5, 13)]
end
section
/-! MY ROWS (z_): the machine's numbers are told by integers (an int by any integer that it is, modulo 2^32); the world is a memory of numbered cells (mm: cell, slot); a method is tied to a pure partial function of its arguments and the memory. -/
abbrev mm : Type := Nat → Nat → Int
def iO (x : Int) : Int32 := Int32.ofInt x
def lO (x : Int) : Int64 := Int64.ofInt x
abbrev inR (x : Int) : Prop := -2147483648 ≤ x ∧ x ≤ 2147483647
abbrev inL (x : Int) : Prop := -9223372036854775808 ≤ x ∧ x ≤ 9223372036854775807
def mu (μ : mm) (i j : Nat) (v : Int) : mm := fun a b => if a = i ∧ b = j then v else μ a b
def bnd {α β : Type} (v : α) (k : α → β) : β := k v
theorem iO_add (x y : Int) : iO x + iO y = iO (x + y) := (Int32.ofInt_add x y).symm
theorem iO_sub (x y : Int) : iO x - iO y = iO (x - y) := (Int32.ofInt_sub x y).symm
theorem iO_mul (x y : Int) : iO x * iO y = iO (x * y) := (Int32.ofInt_mul x y).symm
theorem iO_neg (x : Int) : - iO x = iO (-x) := (Int32.ofInt_neg x).symm
theorem lO_add (x y : Int) : lO x + lO y = lO (x + y) := (Int64.ofInt_add x y).symm
theorem lO_sub (x y : Int) : lO x - lO y = lO (x - y) := (Int64.ofInt_sub x y).symm
theorem lO_mul (x y : Int) : lO x * lO y = lO (x * y) := (Int64.ofInt_mul x y).symm
theorem iO_toInt {x : Int} (h : inR x) : (iO x).toInt = x := by
  unfold iO
  rw [Int32.toInt_ofInt]
  show Int.bmod x 4294967296 = x
  exact Int.bmod_eq_of_le (by omega) (by omega)
theorem lO_toInt {x : Int} (h : inL x) : (lO x).toInt = x := by
  unfold lO
  rw [Int64.toInt_ofInt]
  show Int.bmod x 18446744073709551616 = x
  exact Int.bmod_eq_of_le (by omega) (by omega)
theorem iO_of (x : Int32) : iO x.toInt = x := Int32.ofInt_toInt x
theorem iO_lt {x y : Int} (hx : inR x) (hy : inR y) : iO x < iO y ↔ x < y := by
  rw [Int32.lt_iff_toInt_lt, iO_toInt hx, iO_toInt hy]
theorem iO_le {x y : Int} (hx : inR x) (hy : inR y) : iO x ≤ iO y ↔ x ≤ y := by
  rw [Int32.le_iff_toInt_le, iO_toInt hx, iO_toInt hy]
theorem iO_eq {x y : Int} (hx : inR x) (hy : inR y) : iO x = iO y ↔ x = y := by
  rw [← Int32.toInt_inj, iO_toInt hx, iO_toInt hy]
theorem lO_lt {x y : Int} (hx : inL x) (hy : inL y) : lO x < lO y ↔ x < y := by
  rw [Int64.lt_iff_toInt_lt, lO_toInt hx, lO_toInt hy]
theorem lO_eq {x y : Int} (hx : inL x) (hy : inL y) : lO x = lO y ↔ x = y := by
  rw [← Int64.toInt_inj, lO_toInt hx, lO_toInt hy]
theorem iO_0 : (0 : Int32) = iO 0 := rfl
theorem lO_0 : (0 : Int64) = lO 0 := rfl
theorem iO_clamp {x : Int} (h : inR x) : (iO x).toNatClampNeg = x.toNat := by
  show (iO x).toInt.toNat = x.toNat
  rw [iO_toInt h]
theorem iO_in {x : Int} {n : Nat} (h0 : 0 ≤ x) (h1 : x < (n : Int)) (hn : n < 2 ^ 31) : vp_in (iO x) n := by
  have hr : inR x := ⟨by omega, by omega⟩
  rw [vp_in_iff, iO_toInt hr]
  exact ⟨h0, h1⟩
theorem z_guard {α : Type} {c : Prop} [Decidable c] {x : Option α} {r : α} (h : (if c then x else none) = some r) : c ∧ x = some r := by
  by_cases hc : c
  · rw [if_pos hc] at h; exact ⟨hc, h⟩
  · rw [if_neg hc] at h; cases h
theorem z_bind {α β : Type} {x : Option α} {f : α → Option β} {r : β} (h : x.bind f = some r) : ∃ a, x = some a ∧ f a = some r := Option.bind_eq_some_iff.mp h
theorem z_bnd {α β : Type} {v : α} {k : α → β} {r : β} (h : bnd v k = r) : ∃ a, a = v ∧ k a = r := ⟨v, rfl, h⟩
theorem mu_s {μ : mm} {i j : Nat} {v : Int} : mu μ i j v i j = v := if_pos ⟨rfl, rfl⟩
theorem mu_c {μ : mm} {i j a b : Nat} {v : Int} (h : a ≠ i) : mu μ i j v a b = μ a b := if_neg fun z => h z.1
theorem mu_j {μ : mm} {i j a b : Nat} {v : Int} (h : b ≠ j) : mu μ i j v a b = μ a b := if_neg fun z => h z.2
end
section
/-! THE NUMBERED MEMORY (wip/gen/world.py): cell 0 the reference, 1 .. 8 its rows (s, m, image, was, letters, row, refused, numbers), 9 the class, 10 21 32 its offices (each: itself, the room, eight people, nobody), 43 trial, 44 text and its letters, 46 row, 47 refusals, 48 49 two rows of eight. Kinds: 1 the reference, 2 a row of ints, 3 an office, 4 a room, 5 a person, 6 a text, 7 the class. -/
abbrev NC : Nat := 50
def kdL : List Nat := [1, 2, 2, 2, 2, 2, 2, 2, 2, 7, 3, 4, 5, 5, 5, 5, 5, 5, 5, 5, 5, 3, 4, 5, 5, 5, 5, 5, 5, 5, 5, 5, 3, 4, 5, 5, 5, 5, 5, 5, 5, 5, 5, 5, 6, 2, 2, 2, 2, 2]
def kd (i : Nat) : Nat := kdL.getD i 0
def alL : List Nat := [0, 52, 52, 52, 52, 96, 16, 7, 3, 0, 0, 0, 0, 0, 0, 0, 0, 0, 0, 0, 0, 0, 0, 0, 0, 0, 0, 0, 0, 0, 0, 0, 0, 0, 0, 0, 0, 0, 0, 0, 0, 0, 0, 0, 0, 96, 16, 7, 8, 8]
def al (i : Nat) : Nat := alL.getD i 0
theorem kd_lt {i : Nat} (h : kd i ≠ 0) : i < NC := by
  rcases Nat.lt_or_ge i NC with q | q
  · exact q
  · exact absurd (show kdL.getD i 0 = 0 by rw [List.getD_eq_getElem?_getD, List.getElem?_eq_none (show kdL.length ≤ i from q)]; rfl) h
theorem al_all : ∀ i, i < NC → al i < 2 ^ 31 := by decide +kernel
theorem al_lt (i : Nat) : al i < 2 ^ 31 := by
  rcases Nat.lt_or_ge i NC with q | q
  · exact al_all i q
  · rw [show al i = 0 from (show alL.getD i 0 = 0 by rw [List.getD_eq_getElem?_getD, List.getElem?_eq_none (show alL.length ≤ i from q)]; rfl)]; decide
theorem kd_off_all : ∀ i, i < NC → kd i = 3 → kd (i + 1) = 4 ∧ kd (i + 10) = 5 := by decide +kernel
theorem kd_room {i : Nat} (h : kd i = 3) : kd (i + 1) = 4 := (kd_off_all i (kd_lt (by rw [h]; decide)) h).1
theorem kd_nob {i : Nat} (h : kd i = 3) : kd (i + 10) = 5 := (kd_off_all i (kd_lt (by rw [h]; decide)) h).2
theorem kd_el_all : ∀ i, i < NC → kd i = 4 → ∀ j, j < 8 → kd (i + 1 + j) = 5 := by decide +kernel
theorem kd_el {i j : Nat} (h : kd i = 4) (hj : j < 8) : kd (i + 1 + j) = 5 := kd_el_all i (kd_lt (by rw [h]; decide)) h j hj
def gG (cy : ClassId × ClassId) (ad : Nat → Nat) (μ : mm) (i : Nat) : va_E :=
  if kd i = 2 then .inl (cy.1, al i, .inl (fun j => iO (μ i j)))
  else if kd i = 4 then .inl (cy.2, 8, .inr (.inr (.inr (.inr (fun j => some (ad (i + 1 + j)))))))
  else if kd i = 3 then .inr (0, [.ref (ad (i + 1)), .ref (ad (i + 10)), .int (iO (μ i 2)), .int (iO (μ i 3)), .int (iO (μ i 4)), .int (iO (μ i 5))])
  else if kd i = 5 then .inr (1, [.int (iO (μ i 0)), .int (iO (μ i 1)), .int (iO (μ i 2)), .int (iO (μ i 3)), .int (iO (μ i 4)), .int (iO (μ i 5)), .int (iO (μ i 6)), .int (iO (μ i 7))])
  else if kd i = 6 then .inr (2, [.ref (ad (i + 1)), .int (iO (μ i 1))])
  else if kd i = 7 then .inr (3, [.ref (ad 10), .ref (ad 21), .ref (ad 32), .ref (ad 43), .ref (ad 44), .ref (ad 46), .ref (ad 47), .ref (ad 48), .ref (ad 49), .int (iO (μ i 9)), .int (iO (μ i 10))])
  else .inr (4, [.ref (ad 1), .ref (ad 2), .ref (ad 3), .ref (ad 4), .int (iO (μ i 4)), .ref (ad 5), .ref (ad 6), .ref (ad 7), .int (iO (μ i 8)), .int (iO (μ i 9)), .int (iO (μ i 10)), .ref (ad 8), .int (iO (μ i 12))])
theorem gG_2 {cy : ClassId × ClassId} {ad : Nat → Nat} {μ : mm} {i : Nat} (h : kd i = 2) : gG cy ad μ i = .inl (cy.1, al i, .inl (fun j => iO (μ i j))) := by rw [gG, if_pos h]
theorem gG_4 {cy : ClassId × ClassId} {ad : Nat → Nat} {μ : mm} {i : Nat} (h : kd i = 4) : gG cy ad μ i = .inl (cy.2, 8, .inr (.inr (.inr (.inr (fun j => some (ad (i + 1 + j))))))) := by simp [gG, h]
theorem gG_1 {cy : ClassId × ClassId} {ad : Nat → Nat} {μ : mm} {i : Nat} (h : kd i = 1) : gG cy ad μ i = .inr (4, [.ref (ad 1), .ref (ad 2), .ref (ad 3), .ref (ad 4), .int (iO (μ i 4)), .ref (ad 5), .ref (ad 6), .ref (ad 7), .int (iO (μ i 8)), .int (iO (μ i 9)), .int (iO (μ i 10)), .ref (ad 8), .int (iO (μ i 12))]) := by simp [gG, h]
theorem gG_3 {cy : ClassId × ClassId} {ad : Nat → Nat} {μ : mm} {i : Nat} (h : kd i = 3) : gG cy ad μ i = .inr (0, [.ref (ad (i + 1)), .ref (ad (i + 10)), .int (iO (μ i 2)), .int (iO (μ i 3)), .int (iO (μ i 4)), .int (iO (μ i 5))]) := by simp [gG, h]
theorem gG_5 {cy : ClassId × ClassId} {ad : Nat → Nat} {μ : mm} {i : Nat} (h : kd i = 5) : gG cy ad μ i = .inr (1, [.int (iO (μ i 0)), .int (iO (μ i 1)), .int (iO (μ i 2)), .int (iO (μ i 3)), .int (iO (μ i 4)), .int (iO (μ i 5)), .int (iO (μ i 6)), .int (iO (μ i 7))]) := by simp [gG, h]
theorem gG_6 {cy : ClassId × ClassId} {ad : Nat → Nat} {μ : mm} {i : Nat} (h : kd i = 6) : gG cy ad μ i = .inr (2, [.ref (ad (i + 1)), .int (iO (μ i 1))]) := by simp [gG, h]
theorem gG_7 {cy : ClassId × ClassId} {ad : Nat → Nat} {μ : mm} {i : Nat} (h : kd i = 7) : gG cy ad μ i = .inr (3, [.ref (ad 10), .ref (ad 21), .ref (ad 32), .ref (ad 43), .ref (ad 44), .ref (ad 46), .ref (ad 47), .ref (ad 48), .ref (ad 49), .int (iO (μ i 9)), .int (iO (μ i 10))]) := by simp [gG, h]
theorem gG_congr {cy : ClassId × ClassId} {ad : Nat → Nat} {μ ν : mm} {i : Nat} (h : ν i = μ i) : gG cy ad ν i = gG cy ad μ i := by simp only [gG, h]
theorem gG_mu {cy : ClassId × ClassId} {ad : Nat → Nat} {μ : mm} {i j k : Nat} {v : Int} (h : j ≠ i) : gG cy ad (mu μ i k v) j = gG cy ad μ j := gG_congr (funext fun b => mu_c h)
def cel (cy : ClassId × ClassId) (ad : Nat → Nat) (μ : mm) : va_W := (List.range NC).map fun i => (ad i, gG cy ad μ i)
theorem cel_at {cy : ClassId × ClassId} {ad : Nat → Nat} {μ : mm} {i : Nat} (h : i < NC) : (cel cy ad μ)[i]? = some (ad i, gG cy ad μ i) := by
  simp only [cel, List.getElem?_map, List.getElem?_range h, Option.map_some]
theorem cel_len {cy : ClassId × ClassId} {ad : Nat → Nat} {μ : mm} : (cel cy ad μ).length = NC := by simp [cel]
theorem cel_of {cy : ClassId × ClassId} {ad : Nat → Nat} {μ : mm} {k : Nat} {q : Nat × va_E} (h : (cel cy ad μ)[k]? = some q) : k < NC ∧ q = (ad k, gG cy ad μ k) := by
  have hk : k < NC := by
    have := (List.getElem?_eq_some_iff.mp h).1
    rwa [cel_len] at this
  rw [cel_at hk] at h
  exact ⟨hk, (Option.some.inj h).symm⟩
theorem cel_set {cy : ClassId × ClassId} {ad : Nat → Nat} {μ ν : mm} {i : Nat} (h : i < NC) (hn : ∀ j, j ≠ i → gG cy ad ν j = gG cy ad μ j) : (cel cy ad μ).set i (ad i, gG cy ad ν i) = cel cy ad ν := by
  apply List.ext_getElem?
  intro j
  rcases Nat.lt_or_ge j NC with q | q
  · rw [cel_at q, List.getElem?_set, cel_len, cel_at q]
    by_cases e : i = j
    · subst e; rw [if_pos rfl, if_pos q]
    · rw [if_neg e, hn j (Ne.symm e)]
  · rw [List.getElem?_eq_none (by rw [List.length_set, cel_len]; exact q), List.getElem?_eq_none (by rw [cel_len]; exact q)]
abbrev tyL (cy : ClassId × ClassId) : List (ClassId × FieldType) := [(cy.1, .int), (cy.2, .object "GritIsIssued$Person")]
/-- what a method's walk stands on -/
def zC (p : Program) (s : State) (m : MethodId) (args : Array Value) (c : Code) (cc : ByteArray) (own : String) (Ts : List Cond) (nL : Nat) (D : va_G) (cy : ClassId × ClassId) : Prop := p.tables.exec = Jvm.exec ∧ c.code = cc ∧ c.maxLocals = nL ∧ s.vm.findClass own = some m.cls ∧ (∀ w ∈ Ts, w.before args s = true) ∧ va_K D vwCl (tyL cy) s
/-- the world on a heap -/
def zW (D : va_G) (cy : ClassId × ClassId) (ad : Nat → Nat) (A : Nat → Prop) (H0 : Heap) (μ : mm) (H : Heap) (locs : List Loc) : Prop := va_P D vwCl (cel cy ad μ) H ∧ va_D A (cel cy ad μ) ∧ va_S A H0 H locs
def zA (ad : Nat → Nat) (sz : Nat) : Nat → Prop := fun q => (∃ i, i < NC ∧ q = ad i) ∨ sz ≤ q
def rmD (d : Nat) : Room := { frames := d, cells := 0, slots := 0, locals := 39 * d }
def lenS : List Nat := [5, 4, 2, 3, 0, 6]
def bytS : List (List Int32) := [[107, 48, 48, 48, 59], [48, 48, 48, 59], [48, 59], [48, 48, 59], [], [99, 109, 104, 116, 100, 103]]
/-- the text constants (their places at ad 60 .., their bytes at ad 80 ..), and two statics that nobody writes -/
def zSt (ad : Nat → Nat) (A : Nat → Prop) (U : State) (H : Heap) : Prop := vk_S 6 lenS bytS (fun i => ad (60 + i)) (fun i => ad (80 + i)) A U H ∧ (vk_R "GritIsIssued$Text" 50 "k000;" (ad 60) U ∧ vk_R "GritIsIssued$Text" 52 "000;" (ad 61) U ∧ vk_R "GritIsIssued$Text" 54 "0;" (ad 62) U ∧ vk_R "GritIsIssued$Text" 56 "00;" (ad 63) U ∧ vk_R "GritIsIssued$Text" 58 "" (ad 64) U ∧ vk_R "GritIsIssued$Text" 23 "cmhtdg" (ad 65) U ∧ vk_R "GritIsIssued" 212 "cmhtdg" (ad 65) U) ∧ va_Z "java/lang/String" "COMPACT_STRINGS" "Z" (.int 1) A U H ∧ va_Zq "jdk/internal/util/Preconditions" "SIOOBE_FORMATTER" "Ljava/util/function/BiFunction;" A U H
theorem zSt.same {ad : Nat → Nat} {A : Nat → Prop} {u U : State} {H : Heap} (hv : U.vm = u.vm) (h : zSt ad A u H) : zSt ad A U H := by
  obtain ⟨h1, ⟨r1, r2, r3, r4, r5, r6, r7⟩, h3, h4⟩ := h
  have hA : u.vm.Alike U.vm := by rw [hv]; exact Vm.Alike.refl _
  exact ⟨h1.moved hA, ⟨r1.same hv, r2.same hv, r3.same hv, r4.same hv, r5.same hv, r6.same hv, r7.same hv⟩, h3.moved hA, h4.moved hA⟩
theorem zSt.call {ad : Nat → Nat} {A B : Nat → Prop} {s U : State} {H0 H : Heap} (h : zSt ad A s H0) (hW : s.WarmedH U.vm) (hq : ∀ a : Nat, a < H0.size → ¬ A a → H[a]? = H0[a]?) (hB : ∀ q, B q → A q) : zSt ad B U H := by
  obtain ⟨h1, ⟨r1, r2, r3, r4, r5, r6, r7⟩, h3, h4⟩ := h
  exact ⟨((h1.moved hW.alike).kept hq).narrow hB, ⟨r1.warm hW, r2.warm hW, r3.warm hW, r4.warm hW, r5.warm hW, r6.warm hW, r7.warm hW⟩, ((h3.moved hW.alike).kept hq).narrow hB, ((h4.moved hW.alike).kept hq).narrow hB⟩
def zPre (D : va_G) (cy : ClassId × ClassId) (ad : Nat → Nat) (μ : mm) (sz : Nat) (U : State) : Prop := U.heap.size = sz ∧ va_P D vwCl (cel cy ad μ) U.heap ∧ va_K D vwCl (tyL cy) U ∧ va_D (fun _ => True) (cel cy ad μ) ∧ zSt ad (zA ad sz) U U.heap
def zAt (D : va_G) (cy : ClassId × ClassId) (ad : Nat → Nat) (A : Nat → Prop) (μ : mm) (t : State) : Prop := va_P D vwCl (cel cy ad μ) t.heap ∧ va_K D vwCl (tyL cy) t ∧ va_D A (cel cy ad μ)
abbrev zQi (D : va_G) (cy : ClassId × ClassId) (ad : Nat → Nat) (A : Nat → Prop) (r : Int) (ν : mm) : Array Value → State → Outcome → State → Prop := va_Qi (fun (x : Int32) (u : mm) => x = iO r ∧ u = ν) (fun u t => zAt D cy ad A u t) A
abbrev zQl (D : va_G) (cy : ClassId × ClassId) (ad : Nat → Nat) (A : Nat → Prop) (r : Int) (ν : mm) : Array Value → State → Outcome → State → Prop := va_Ql (fun (x : Int64) (u : mm) => x = lO r ∧ u = ν) (fun u t => zAt D cy ad A u t) A
abbrev zQv (D : va_G) (cy : ClassId × ClassId) (ad : Nat → Nat) (A : Nat → Prop) (ν : mm) : Array Value → State → Outcome → State → Prop := va_Qv (fun (u : mm) => u = ν) (fun u t => zAt D cy ad A u t) A
abbrev zQr (D : va_G) (cy : ClassId × ClassId) (ad : Nat → Nat) (A : Nat → Prop) (k : Nat) (ν : mm) : Array Value → State → Outcome → State → Prop := va_Qr (fun (u : mm) => u = ν) (fun u a t => a = ad k ∧ zAt D cy ad A u t) A
/-- contracts: the answer an int (or boolean), a long, nothing, a cell -/
def zI (l : Launch) (y : MethodName) (ws : List Cond) (d : Nat) (D : va_G) (cy : ClassId × ClassId) (ad : Nat → Nat) (av : List Value) (μ : mm) (r : Int) (ν : mm) : Prop := ∀ sz : Nat, Met l y ws (rmD d) (va_Pc av (zPre D cy ad μ sz)) (zQi D cy ad (zA ad sz) r ν) 0 0 (zA ad sz)
def zJ (l : Launch) (y : MethodName) (ws : List Cond) (d : Nat) (D : va_G) (cy : ClassId × ClassId) (ad : Nat → Nat) (av : List Value) (μ : mm) (r : Int) (ν : mm) : Prop := ∀ sz : Nat, Met l y ws (rmD d) (va_Pc av (zPre D cy ad μ sz)) (zQl D cy ad (zA ad sz) r ν) 0 0 (zA ad sz)
def zV (l : Launch) (y : MethodName) (ws : List Cond) (d : Nat) (D : va_G) (cy : ClassId × ClassId) (ad : Nat → Nat) (av : List Value) (μ ν : mm) : Prop := ∀ sz : Nat, Met l y ws (rmD d) (va_Pc av (zPre D cy ad μ sz)) (zQv D cy ad (zA ad sz) ν) 0 0 (zA ad sz)
def zR (l : Launch) (y : MethodName) (ws : List Cond) (d : Nat) (D : va_G) (cy : ClassId × ClassId) (ad : Nat → Nat) (av : List Value) (μ : mm) (k : Nat) (ν : mm) : Prop := ∀ sz : Nat, Met l y ws (rmD d) (va_Pc av (zPre D cy ad μ sz)) (zQr D cy ad (zA ad sz) k ν) 0 0 (zA ad sz)
theorem zPre_blind {D : va_G} {cy : ClassId × ClassId} {ad : Nat → Nat} {μ : mm} {sz : Nat} {av : List Value} : FrameBlind (va_Pc av (zPre D cy ad μ sz)) := fun a U g mk q => by
  obtain ⟨q0, q1, qP, qK, qD, qT⟩ := q
  exact ⟨q0, q1, qP, va_K.moved (u := U) (U := U.calling g mk a) (Vm.Alike.refl U.vm) qK, qD, zSt.same (u := U) (U := U.calling g mk a) rfl qT⟩
theorem cel_adr {cy : ClassId × ClassId} {ad : Nat → Nat} {μ ν : mm} {A : Nat → Prop} (h : va_D A (cel cy ad μ)) : va_D A (cel cy ad ν) := by
  refine ⟨fun i j p q hi hj e => ?_, fun k q hk => ?_⟩
  · obtain ⟨ki, rfl⟩ := cel_of hi
    obtain ⟨kj, rfl⟩ := cel_of hj
    exact h.1 i j _ _ (cel_at ki) (cel_at kj) e
  · obtain ⟨kk, rfl⟩ := cel_of hk
    exact h.2 k (ad k, gG cy ad μ k) (cel_at kk)
theorem cel_self {cy : ClassId × ClassId} {ad : Nat → Nat} {μ : mm} {A : Nat → Prop} {sz : Nat} (h : va_D A (cel cy ad μ)) : va_D (zA ad sz) (cel cy ad μ) := ⟨h.1, fun k q hk => by
  obtain ⟨kk, rfl⟩ := cel_of hk
  exact Or.inl ⟨k, kk, rfl⟩⟩
theorem zA_sub {cy : ClassId × ClassId} {ad : Nat → Nat} {μ : mm} {A : Nat → Prop} {H0 H : Heap} {locs : List Loc} (hD : va_D A (cel cy ad μ)) (hS : va_S A H0 H locs) (hA : ∀ q, H0.size ≤ q → A q) : ∀ q, zA ad H.size q → A q := by
  intro q h
  rcases h with ⟨i, hi, rfl⟩ | h
  · exact hD.2 i _ (cel_at hi)
  · exact hA q (Nat.le_trans hS.1 h)
def blen (b : Nat) : Int := ((lenS.getD (b - 80) 0 : Nat) : Int)
def bch (b k : Nat) : Int := ((bytS.getD (b - 80) []).getD k 0).toInt
def zpop (x : Int) : Int := x % 2 + x / 2 % 2 + x / 4 % 2 + x / 8 % 2 + x / 16 % 2 + x / 32 % 2 + x / 64 % 2 + x / 128 % 2
def zcmp (x y : Int) : Int := if x < y then -1 else if x = y then 0 else 1
def zand (x y : Int) : Int := (iO x &&& iO y).toInt
def zor (x y : Int) : Int := (iO x ||| iO y).toInt
def zxor (x y : Int) : Int := (iO x ^^^ iO y).toInt
def M6_bitCount_0f7a4 (N : Nat) (a0 : Int) (μ0 : mm) : Option Int := if 0 ≤ a0 ∧ a0 < 256 then some (zpop a0) else none
def M0_checkIndex_df160 (N : Nat) (a0 a1 : Int) (μ0 : mm) : Option mm := if inR a0 ∧ inR a1 ∧ 0 ≤ a0 ∧ a0 < a1 then some μ0 else none
end
section
/-! PURE FUNCTIONS, a method each (wip/gen/gen.py): integers and the numbered memory; none: a road that is not to be taken, or no fuel left -/
-- X0_needs
def M0_needs (N : Nat) (a0 : Int) (a1 : Int) (μ0 : mm) : Option Int := bnd (a1 + 1) fun (w1 : Int) => bnd (w1 + 4) fun (w2 : Int) => if inR a0 then (if a0 = 1 then (some w2) else (if a0 = 2 then (some (w1 * 2)) else (if a0 = 3 then (if 0 ≤ w1 ∧ inR w1 then (some (w1 / 2)) else none) else (if a0 = 4 then (some (w2 + 10)) else (if a0 = 5 then (some 1) else (some w1)))))) else none
-- X0_wears
def M0_wears (N : Nat) (a0 : Int) (a1 : Int) (μ0 : mm) : Option Int := if inR a0 then (if a0 = 2 then (some a1) else (if a0 = 3 then (some 1) else (if a0 = 4 then (if 0 ≤ a1 ∧ inR a1 then (some (a1 / 3)) else none) else (if a0 = 5 then (some 0) else (if 0 ≤ a1 ∧ inR a1 then (some (a1 / 2)) else none))))) else none
-- X0_nextIn
def M0_nextIn (N : Nat) (a0 : Int) (μ0 : mm) : Option Int := if inR a0 then (if a0 = 1 then (some 1) else (if a0 = 2 then (some 30) else (if a0 = 3 then (some 7) else (if a0 = 4 then (some 0) else (if a0 = 5 then (some (7 + 1)) else (some 7)))))) else none
-- X1_knows
def M1_knows (N : Nat) (o : Nat) (a0 : Int) (μ0 : mm) : Option Int := if inR a0 then (if a0 < 0 then (some 0) else (if inR a0 ∧ inR (μ0 o 2) then (if (μ0 o 2) ≤ a0 then (some 0) else (some 1)) else none)) else none
-- X1_at
def M1_at (N : Nat) (o : Nat) (a0 : Int) (μ0 : mm) : Option Nat := if inR a0 then (if a0 < 0 then (some (o + 10)) else (if inR a0 then (if 8 ≤ a0 then (some (o + 10)) else (if 0 ≤ a0 ∧ a0 < 8 then (some ((o + 1) + 1 + (a0).toNat)) else none)) else none)) else none
-- X2_takeFrom
def M2_takeFrom (N : Nat) (o : Nat) (a0 : Nat) (μ : mm) : Option mm := bnd (mu μ o 0 (μ a0 0)) fun (μ1 : mm) => bnd (mu μ1 o 1 (μ1 a0 1)) fun (μ2 : mm) => bnd (mu μ2 o 2 (μ2 a0 2)) fun (μ3 : mm) => bnd (mu μ3 o 3 (μ3 a0 3)) fun (μ4 : mm) => bnd (mu μ4 o 4 (μ4 a0 4)) fun (μ5 : mm) => bnd (mu μ5 o 5 (μ5 a0 5)) fun (μ6 : mm) => bnd (mu μ6 o 6 0) fun (μ7 : mm) => bnd (mu μ7 o 7 0) fun (μ8 : mm) => some μ8
-- X1_takeFrom
def L1_takeFrom_34 (N : Nat) : Nat → Nat → Nat → Int → mm → Option mm
  | 0, _, _, _, _ => none
  | k + 1, r0, r1, x2, μ => if inR x2 ∧ inR (μ r0 2) then (if (μ r0 2) ≤ x2 then (some μ) else ((M1_at N r0 x2 μ).bind fun (q6 : Nat) => if kd q6 = 5 then ((M1_at N r1 x2 μ).bind fun (q8 : Nat) => if kd q8 = 5 then ((M2_takeFrom N q6 q8 μ).bind fun (q10 : mm) => L1_takeFrom_34 N k r0 r1 (x2 + 1) q10) else none) else none)) else none
def M1_takeFrom (N : Nat) (o : Nat) (a0 : Nat) (μ : mm) : Option mm := bnd (mu μ o 2 (μ a0 2)) fun (μ1 : mm) => bnd (mu μ1 o 3 (μ1 a0 3)) fun (μ2 : mm) => bnd (mu μ2 o 4 (μ2 a0 4)) fun (μ3 : mm) => bnd (mu μ3 o 5 (μ3 a0 5)) fun (μ4 : mm) => L1_takeFrom_34 N N o a0 0 μ4
-- X1_welcome
def M1_welcome (N : Nat) (o : Nat) (a0 : Int) (a1 : Int) (a2 : Int) (μ : mm) : Option (Int × mm) := if inR (μ o 2) then (if 8 ≤ (μ o 2) then (some (0, μ)) else (if inR a2 then (if a2 ≤ 60 then ((M1_at N o (μ o 2) μ).bind fun (q3 : Nat) => if kd q3 = 5 then ((M2_takeFrom N q3 (o + 10) μ).bind fun (q5 : mm) => bnd (mu q5 q3 0 a0) fun (μ6 : mm) => bnd (mu μ6 q3 1 a1) fun (μ7 : mm) => bnd (mu μ7 q3 3 a2) fun (μ8 : mm) => bnd (mu μ8 o 2 ((μ8 o 2) + 1)) fun (μ9 : mm) => some (1, μ9)) else none) else (some (0, μ))) else none)) else none
-- X1_issue
def M1_issue (N : Nat) (o : Nat) (a0 : Int) (a1 : Int) (μ : mm) : Option (Int × mm) := (M1_knows N o a0 μ).bind fun (q1 : Int) => if inR q1 then (if q1 = 0 then (some (0, μ)) else (if inR a1 ∧ inR (μ o 3) then (if (μ o 3) < a1 then (some (0, μ)) else ((M1_at N o a0 μ).bind fun (q4 : Nat) => if kd q4 = 5 then (if inR ((μ q4 2) + a1) then (if ((μ q4 2) + a1) ≤ 99 then ((M1_at N o a0 μ).bind fun (q7 : Nat) => if kd q7 = 5 then (bnd (mu μ q7 2 ((μ q7 2) + a1)) fun (μ9 : mm) => bnd (mu μ9 o 3 ((μ9 o 3) - a1)) fun (μ10 : mm) => some (1, μ10)) else none) else (some (0, μ))) else none) else none)) else none)) else none
-- X1_wear
def M1_wear (N : Nat) (o : Nat) (a0 : Int) (μ : mm) : Option mm := if inR ((μ o 4) + a0) then (bnd (mu μ o 4 (if 9999 < ((μ o 4) + a0) then 9999 else ((μ o 4) + a0))) fun (μ2 : mm) => some μ2) else none
-- X1_handIn
def M1_handIn (N : Nat) (o : Nat) (a0 : Int) (μ : mm) : Option (Int × mm) := (M1_knows N o a0 μ).bind fun (q1 : Int) => if inR q1 then (if q1 = 0 then (some (0, μ)) else ((M1_at N o a0 μ).bind fun (q3 : Nat) => if kd q3 = 5 then (bnd ((μ o 3) + (μ q3 2)) fun (w5 : Int) => (M1_at N o a0 μ).bind fun (q6 : Nat) => if kd q6 = 5 then (bnd (mu μ q6 2 0) fun (μ8 : mm) => if inR w5 then (bnd (mu μ8 o 3 (if 999 < w5 then 999 else w5)) fun (μ10 : mm) => (M1_wear N o (w5 - (μ10 o 3)) μ10).bind fun (q11 : mm) => some (1, q11)) else none) else none) else none)) else none
-- X1_setDue
def M1_setDue (N : Nat) (o : Nat) (a0 : Int) (a1 : Int) (μ : mm) : Option (Int × mm) := (M1_knows N o a0 μ).bind fun (q1 : Int) => if inR q1 then (if q1 = 0 then (some (0, μ)) else (if inR a1 then (if a1 ≤ 60 then ((M1_at N o a0 μ).bind fun (q4 : Nat) => if kd q4 = 5 then (bnd (mu μ q4 3 a1) fun (μ6 : mm) => some (1, μ6)) else none) else (some (0, μ))) else none)) else none
-- X1_fill
def M1_fill (N : Nat) (o : Nat) (a0 : Int) (μ : mm) : Option (Int × mm) := if inR ((μ o 3) + a0) then (if ((μ o 3) + a0) ≤ 999 then (bnd (mu μ o 3 ((μ o 3) + a0)) fun (μ2 : mm) => some (1, μ2)) else (some (0, μ))) else none
-- X2_oneDay
def J2_oneDay_131 (N : Nat) (r0 : Nat) (x2 : Int) (μ : mm) : Option (Int × mm) := (M0_nextIn N (μ r0 0) μ).bind fun (q9 : Int) => bnd (mu μ r0 3 q9) fun (μ10 : mm) => some (x2, μ10)
def M2_oneDay (N : Nat) (o : Nat) (μ : mm) : Option (Int × mm) := if inR (μ o 3) then (if (μ o 3) = 0 then (some (0, μ)) else (bnd (mu μ o 3 ((μ o 3) - 1)) fun (μ2 : mm) => if inR (μ2 o 3) then (if (μ2 o 3) ≤ 0 then ((M0_needs N (μ2 o 0) (μ2 o 1) μ2).bind fun (q4 : Int) => if inR (μ2 o 2) ∧ inR q4 then (if (μ2 o 2) < q4 then (bnd (mu μ2 o 7 ((μ2 o 7) + 1)) fun (μ6 : mm) => if inR ((μ6 o 5) + 1) then (bnd (mu μ6 o 5 (if 999 < ((μ6 o 5) + 1) then 999 else ((μ6 o 5) + 1))) fun (μ8 : mm) => J2_oneDay_131 N o 0 μ8) else none) else (bnd (mu μ2 o 6 ((μ2 o 6) + 1)) fun (μ11 : mm) => if inR ((μ11 o 4) + 1) then (bnd (mu μ11 o 4 (if 999 < ((μ11 o 4) + 1) then 999 else ((μ11 o 4) + 1))) fun (μ13 : mm) => (M0_wears N (μ13 o 0) q4 μ13).bind fun (q14 : Int) => if inR q14 ∧ inR (μ13 o 2) then (bnd (if (μ13 o 2) < q14 then (μ13 o 2) else q14) fun (w16 : Int) => bnd (mu μ13 o 2 ((μ13 o 2) - w16)) fun (μ17 : mm) => J2_oneDay_131 N o w16 μ17) else none) else none)) else none) else (some (0, μ2))) else none)) else none
-- X1_daysGoBy
def L1_daysGoBy_19 (N : Nat) (rec2 : Nat → Int → Int → mm → Option mm) : Nat → Nat → Int → Int → Int → mm → Option mm
  | 0, _, _, _, _, _ => none
  | k + 1, r0, x1, x2, x3, μ => if inR x3 ∧ inR (μ r0 2) then (if (μ r0 2) ≤ x3 then (rec2 r0 x1 (x2 + 1) μ) else ((M1_at N r0 x3 μ).bind fun (q4 : Nat) => if kd q4 = 5 then ((M2_oneDay N q4 μ).bind fun (q6 : (Int × mm)) => (M1_wear N r0 q6.1 q6.2).bind fun (q7 : mm) => L1_daysGoBy_19 N rec2 k r0 x1 x2 (x3 + 1) q7) else none)) else none
def L1_daysGoBy_2 (N : Nat) : Nat → Nat → Int → Int → mm → Option mm
  | 0, _, _, _, _ => none
  | k + 1, r0, x1, x2, μ => if inR x2 ∧ inR x1 then (if x1 ≤ x2 then (some μ) else (bnd (mu μ r0 5 ((μ r0 5) + 1)) fun (μ2 : mm) => L1_daysGoBy_19 N (L1_daysGoBy_2 N k) N r0 x1 x2 0 μ2)) else none
def M1_daysGoBy (N : Nat) (o : Nat) (a0 : Int) (μ : mm) : Option mm := L1_daysGoBy_2 N N o a0 0 μ
-- X1_daysCome
def M1_daysCome (N : Nat) (o : Nat) (a0 : Int) (μ : mm) : Option (Int × mm) := if inR a0 then (if a0 < 1 then (some (0, μ)) else (if inR a0 then (if 60 < a0 then (some (0, μ)) else (if inR ((μ o 5) + a0) then (if ((μ o 5) + a0) ≤ 999 then ((M1_daysGoBy N o a0 μ).bind fun (q4 : mm) => some (1, q4)) else (some (0, μ))) else none)) else none)) else none
-- X2_needed
def M2_needed (N : Nat) (o : Nat) (μ0 : mm) : Option Int := (M0_needs N (μ0 o 0) (μ0 o 1) μ0).bind fun (q1 : Int) => some q1
-- X2_lacking
def M2_lacking (N : Nat) (o : Nat) (μ0 : mm) : Option Int := if inR (μ0 o 3) then (if (μ0 o 3) = 0 then (some 0) else ((M2_needed N o μ0).bind fun (q2 : Int) => if inR (q2 - (μ0 o 2)) then (some (if 0 < (q2 - (μ0 o 2)) then (q2 - (μ0 o 2)) else 0)) else none)) else none
-- X1_issueAhead
def J1_issueAhead_38 (N : Nat) (rec2 : Nat → Int → mm → Option (Int × mm)) (r0 : Nat) (x1 : Int) (μ : mm) : Option (Int × mm) := rec2 r0 (x1 + 1) μ
def L1_issueAhead_2 (N : Nat) : Nat → Nat → Int → mm → Option (Int × mm)
  | 0, _, _, _ => none
  | k + 1, r0, x1, μ => if inR x1 ∧ inR (μ r0 2) then (if (μ r0 2) ≤ x1 then (some ((-9), μ)) else ((M1_at N r0 x1 μ).bind fun (q2 : Nat) => if kd q2 = 5 then (if inR (μ q2 3) then (if (μ q2 3) = 1 then ((M2_lacking N q2 μ).bind fun (q5 : Int) => (M1_issue N r0 x1 q5 μ).bind fun (q6 : (Int × mm)) => if inR q6.1 then (if q6.1 = 0 then (some (x1, q6.2)) else (J1_issueAhead_38 N (L1_issueAhead_2 N k) r0 x1 q6.2)) else none) else (J1_issueAhead_38 N (L1_issueAhead_2 N k) r0 x1 μ)) else none) else none)) else none
def M1_issueAhead (N : Nat) (o : Nat) (μ : mm) : Option (Int × mm) := L1_issueAhead_2 N N o 0 μ
-- X1_firstMissing
def L1_firstMissing_2 (N : Nat) : Nat → Nat → Int → mm → Option Int
  | 0, _, _, _ => none
  | k + 1, r0, x1, μ => if inR x1 ∧ inR (μ r0 2) then (if (μ r0 2) ≤ x1 then (some (-9)) else ((M1_at N r0 x1 μ).bind fun (q2 : Nat) => if kd q2 = 5 then (if inR (μ q2 7) then (if (μ q2 7) ≤ 0 then (L1_firstMissing_2 N k r0 (x1 + 1) μ) else (some x1)) else none) else none)) else none
def M1_firstMissing (N : Nat) (o : Nat) (μ0 : mm) : Option Int := L1_firstMissing_2 N N o 0 μ0
-- X1_lackAll
def J1_lackAll_32 (N : Nat) (rec2 : Nat → Int → Int → mm → Option Int) (r0 : Nat) (x1 : Int) (x2 : Int) (μ : mm) : Option Int := rec2 r0 x1 (x2 + 1) μ
def L1_lackAll_2 (N : Nat) : Nat → Nat → Int → Int → mm → Option Int
  | 0, _, _, _, _ => none
  | k + 1, r0, x1, x2, μ => if inR x2 ∧ inR (μ r0 2) then (if (μ r0 2) ≤ x2 then (some 1) else (if inR x1 ∧ 0 ≤ x2 ∧ x2 < 32 then (if inR ((x1 / 2 ^ (x2 : Int).toNat) % 2) then (if ((x1 / 2 ^ (x2 : Int).toNat) % 2) = 1 then ((M1_at N r0 x2 μ).bind fun (q4 : Nat) => if kd q4 = 5 then ((M2_lacking N q4 μ).bind fun (q6 : Int) => if inR q6 then (if q6 = 0 then (some 0) else (J1_lackAll_32 N (L1_lackAll_2 N k) r0 x1 x2 μ)) else none) else none) else (J1_lackAll_32 N (L1_lackAll_2 N k) r0 x1 x2 μ)) else none) else none)) else none
def M1_lackAll (N : Nat) (o : Nat) (a0 : Int) (μ0 : mm) : Option Int := L1_lackAll_2 N N o a0 0 μ0
-- X1_lackOf
def J1_lackOf_32 (N : Nat) (rec4 : Nat → Int → Int → Int → mm → Option Int) (r0 : Nat) (x1 : Int) (x2 : Int) (x3 : Int) (μ : mm) : Option Int := rec4 r0 x1 x2 (x3 + 1) μ
def L1_lackOf_4 (N : Nat) : Nat → Nat → Int → Int → Int → mm → Option Int
  | 0, _, _, _, _, _ => none
  | k + 1, r0, x1, x2, x3, μ => if inR x3 ∧ inR (μ r0 2) then (if (μ r0 2) ≤ x3 then (some x2) else (if inR x1 ∧ 0 ≤ x3 ∧ x3 < 32 then (if inR ((x1 / 2 ^ (x3 : Int).toNat) % 2) then (if ((x1 / 2 ^ (x3 : Int).toNat) % 2) = 1 then ((M1_at N r0 x3 μ).bind fun (q4 : Nat) => if kd q4 = 5 then ((M2_lacking N q4 μ).bind fun (q6 : Int) => bnd (x2 + q6) fun (w7 : Int) => J1_lackOf_32 N (L1_lackOf_4 N k) r0 x1 w7 x3 μ) else none) else (J1_lackOf_32 N (L1_lackOf_4 N k) r0 x1 x2 x3 μ)) else none) else none)) else none
def M1_lackOf (N : Nat) (o : Nat) (a0 : Int) (μ0 : mm) : Option Int := L1_lackOf_4 N N o a0 0 0 μ0
-- X1_allThrough
def L1_allThrough_4 (N : Nat) : Nat → Nat → Int → Int → mm → Option Int
  | 0, _, _, _, _ => none
  | k + 1, r0, x1, x2, μ => if inR x2 ∧ inR (μ r0 2) then (if (μ r0 2) ≤ x2 then (some x1) else ((M1_at N r0 x2 μ).bind fun (q2 : Nat) => if kd q2 = 5 then (bnd (x1 + (μ q2 4)) fun (w4 : Int) => L1_allThrough_4 N k r0 w4 (x2 + 1) μ) else none)) else none
def M1_allThrough (N : Nat) (o : Nat) (μ0 : mm) : Option Int := L1_allThrough_4 N N o 0 0 μ0
-- X1_allShort
def L1_allShort_4 (N : Nat) : Nat → Nat → Int → Int → mm → Option Int
  | 0, _, _, _, _ => none
  | k + 1, r0, x1, x2, μ => if inR x2 ∧ inR (μ r0 2) then (if (μ r0 2) ≤ x2 then (some x1) else ((M1_at N r0 x2 μ).bind fun (q2 : Nat) => if kd q2 = 5 then (bnd (x1 + (μ q2 5)) fun (w4 : Int) => L1_allShort_4 N k r0 w4 (x2 + 1) μ) else none)) else none
def M1_allShort (N : Nat) (o : Nat) (μ0 : mm) : Option Int := L1_allShort_4 N N o 0 0 μ0
-- X1_allHas
def L1_allHas_4 (N : Nat) : Nat → Nat → Int → Int → mm → Option Int
  | 0, _, _, _, _ => none
  | k + 1, r0, x1, x2, μ => if inR x2 ∧ inR (μ r0 2) then (if (μ r0 2) ≤ x2 then (some x1) else ((M1_at N r0 x2 μ).bind fun (q2 : Nat) => if kd q2 = 5 then (bnd (x1 + (μ q2 2)) fun (w4 : Int) => L1_allHas_4 N k r0 w4 (x2 + 1) μ) else none)) else none
def M1_allHas (N : Nat) (o : Nat) (μ0 : mm) : Option Int := L1_allHas_4 N N o 0 0 μ0
-- X1_allWithMatter
def J1_allWithMatter_26 (N : Nat) (rec4 : Nat → Int → Int → mm → Option Int) (r0 : Nat) (x1 : Int) (x2 : Int) (μ : mm) : Option Int := rec4 r0 x1 (x2 + 1) μ
def L1_allWithMatter_4 (N : Nat) : Nat → Nat → Int → Int → mm → Option Int
  | 0, _, _, _, _ => none
  | k + 1, r0, x1, x2, μ => if inR x2 ∧ inR (μ r0 2) then (if (μ r0 2) ≤ x2 then (some x1) else ((M1_at N r0 x2 μ).bind fun (q2 : Nat) => if kd q2 = 5 then (if inR (μ q2 3) then (if (μ q2 3) ≤ 0 then (J1_allWithMatter_26 N (L1_allWithMatter_4 N k) r0 x1 x2 μ) else (J1_allWithMatter_26 N (L1_allWithMatter_4 N k) r0 (x1 + 1) x2 μ)) else none) else none)) else none
def M1_allWithMatter (N : Nat) (o : Nat) (μ0 : mm) : Option Int := L1_allWithMatter_4 N N o 0 0 μ0
-- X3_add
def M3_add (N : Nat) (a0 : Int) (μ : mm) : Option mm := if inR (μ 44 1) then (if (μ 44 1) < 0 then (some μ) else (if inR (μ 44 1) then (if 96 ≤ (μ 44 1) then (some μ) else (bnd (mu μ 44 1 ((μ 44 1) + 1)) fun (μ3 : mm) => if 0 ≤ (μ 44 1) ∧ (μ 44 1) < 96 then (bnd (mu μ3 45 ((μ 44 1)).toNat a0) fun (μ5 : mm) => some μ5) else none)) else none)) else none
-- X3_letterAt
def M3_letterAt (N : Nat) (a0 : Int) (μ0 : mm) : Option Int := if inR a0 then (if a0 < 0 then (some (-1)) else (if inR a0 ∧ inR (μ0 44 1) then (if (μ0 44 1) ≤ a0 then (some (-1)) else (if inR a0 then (if 96 ≤ a0 then (some (-1)) else (if 0 ≤ a0 ∧ a0 < 96 then (some (μ0 45 (a0).toNat)) else none)) else none)) else none)) else none
-- J0_isLatin1_aae02
def M0_isLatin1_aae02 (N : Nat) (o : Nat) (μ0 : mm) : Option Int := if (1 : Int) = 0 then (some 0) else (if (0 : Int) = 0 then (some 1) else (some 0))
-- J0_coder_7d493
def M0_coder_7d493 (N : Nat) (o : Nat) (μ0 : mm) : Option Int := if (1 : Int) = 0 then (some 1) else (some 0)
-- J0_length_8abf5
def M0_length_8abf5 (N : Nat) (o : Nat) (μ0 : mm) : Option Int := (M0_coder_7d493 N o μ0).bind fun (q1 : Int) => if inR (blen (o + 20)) ∧ 0 ≤ q1 ∧ q1 < 32 then (some ((blen (o + 20)) / 2 ^ (q1 : Int).toNat)) else none
-- J1_canEncode_9a6ad
def M1_canEncode_9a6ad (N : Nat) (a0 : Int) (μ0 : mm) : Option Int := if inR a0 then (if a0 < 0 then (some 0) else (if inR a0 then (if 255 < a0 then (some 0) else (some 1)) else none)) else none
-- J1_indexOfChar_4cfef
def L1_indexOfChar_4cfef_7 (N : Nat) : Nat → Nat → Int → Int → Int → mm → Option Int
  | 0, _, _, _, _, _ => none
  | k + 1, r0, x3, x4, x5, μ => if inR x5 ∧ inR x3 then (if x3 ≤ x5 then (some (-1)) else (if 0 ≤ x5 ∧ x5 < blen r0 then (if inR (bch r0 (x5).toNat) ∧ inR x4 then (if (bch r0 (x5).toNat) = x4 then (some x5) else (L1_indexOfChar_4cfef_7 N k r0 x3 x4 (x5 + 1) μ)) else none) else none)) else none
def M1_indexOfChar_4cfef (N : Nat) (a0 : Nat) (a1 : Int) (a2 : Int) (a3 : Int) (μ0 : mm) : Option Int := bnd ((a1 + 128) % 256 - 128) fun (w1 : Int) => L1_indexOfChar_4cfef_7 N N a0 a3 w1 a2 μ0
-- J1_indexOf_4cfef
def M1_indexOf_4cfef (N : Nat) (a0 : Nat) (a1 : Int) (a2 : Int) (a3 : Int) (μ0 : mm) : Option Int := (M1_canEncode_9a6ad N a1 μ0).bind fun (q1 : Int) => if inR q1 then (if q1 = 0 then (some (-1)) else (if inR a2 then (bnd (if a2 < 0 then 0 else a2) fun (w4 : Int) => if inR a3 ∧ inR (blen a0) then (bnd (if (blen a0) < a3 then (blen a0) else a3) fun (w6 : Int) => if inR w4 ∧ inR w6 then (if w4 < w6 then ((M1_indexOfChar_4cfef N a0 a1 w4 w6 μ0).bind fun (q8 : Int) => some q8) else (some (-1))) else none) else none) else none)) else none
-- J0_indexOf_7cf53
def M0_indexOf_7cf53 (N : Nat) (o : Nat) (a0 : Int) (a1 : Int) (μ0 : mm) : Option Int := (M0_isLatin1_aae02 N o μ0).bind fun (q1 : Int) => if inR q1 then (if q1 = 0 then ((M0_length_8abf5 N o μ0).bind fun (q3 : Int) => none) else ((M0_length_8abf5 N o μ0).bind fun (q4 : Int) => (M1_indexOf_4cfef N (o + 20) a0 a1 q4 μ0).bind fun (q5 : Int) => some q5)) else none
-- J0_indexOf_0f7a4
def M0_indexOf_0f7a4 (N : Nat) (o : Nat) (a0 : Int) (μ0 : mm) : Option Int := (M0_indexOf_7cf53 N o a0 0 μ0).bind fun (q1 : Int) => some q1
-- X3_kindAt
def M3_kindAt (N : Nat) (a0 : Int) (μ0 : mm) : Option Int := (M3_letterAt N a0 μ0).bind fun (q1 : Int) => if inR q1 then (if 0 ≤ q1 then (if 0 ≤ q1 ∧ q1 < 65536 then ((M0_indexOf_0f7a4 N 65 q1 μ0).bind fun (q4 : Int) => some q4) else none) else (some (-1))) else none
-- X3_number
def L3_number_5 (N : Nat) : Nat → Int → Int → Int → Int → mm → Option Int
  | 0, _, _, _, _, _ => none
  | k + 1, x1, x2, x3, x4, μ => if inR x4 ∧ inR x2 then (if x2 ≤ x4 then (some x3) else ((M3_letterAt N (x1 + x4) μ).bind fun (q2 : Int) => bnd (((x3 * 10) + q2) - 48) fun (w3 : Int) => L3_number_5 N k x1 x2 w3 (x4 + 1) μ)) else none
def M3_number (N : Nat) (a0 : Int) (a1 : Int) (μ0 : mm) : Option Int := L3_number_5 N N a0 a1 0 0 μ0
-- X3_behind
def M3_behind (N : Nat) (a0 : Int) (μ0 : mm) : Option Nat := if inR a0 then (if a0 = 100 then (some 63) else (if a0 = 101 then (some 64) else (if a0 = 102 then (some 64) else (if a0 = 103 then (some 61) else (if a0 = 104 then (some 64) else (if a0 = 105 then (some 61) else (if a0 = 106 then (some 64) else (if a0 = 107 then (some 64) else (if a0 = 108 then (some 64) else (if a0 = 109 then (some 64) else (if a0 = 110 then (some 64) else (if a0 = 111 then (some 64) else (if a0 = 112 then (some 60) else (if a0 = 113 then (some 64) else (if a0 = 114 then (some 62) else (if a0 = 115 then (some 64) else (if a0 = 116 then (some 64) else (if a0 = 117 then (some 61) else (some 64))))))))))))))))))) else none
-- X3_lengthAt
def M3_lengthAt (N : Nat) (a0 : Int) (μ0 : mm) : Option Int := (M3_letterAt N a0 μ0).bind fun (q1 : Int) => (M3_behind N q1 μ0).bind fun (q2 : Nat) => if 60 ≤ q2 ∧ q2 < 66 then ((M0_length_8abf5 N q2 μ0).bind fun (q4 : Int) => some (1 + q4)) else none
-- J0_isEmpty_aae02
def M0_isEmpty_aae02 (N : Nat) (o : Nat) (μ0 : mm) : Option Int := if inR (blen (o + 20)) then (if (blen (o + 20)) = 0 then (some 1) else (some 0)) else none
-- J1_charAt_3b067
def M1_charAt_3b067 (N : Nat) (a0 : Nat) (a1 : Int) (μ0 : mm) : Option Int := (M0_checkIndex_df160 N a1 (blen a0) μ0).bind fun (q1 : mm) => if 0 ≤ a1 ∧ a1 < blen a0 then (if 0 ≤ ((bch a0 (a1).toNat) % 256) ∧ ((bch a0 (a1).toNat) % 256) < 65536 then (if 0 ≤ ((bch a0 (a1).toNat) % 256) ∧ ((bch a0 (a1).toNat) % 256) < 65536 then (some ((bch a0 (a1).toNat) % 256)) else none) else none) else none
-- J0_charAt_5068e
def M0_charAt_5068e (N : Nat) (o : Nat) (a0 : Int) (μ0 : mm) : Option Int := (M0_isLatin1_aae02 N o μ0).bind fun (q1 : Int) => if inR q1 then (if q1 = 0 then (none) else ((M1_charAt_3b067 N (o + 20) a0 μ0).bind fun (q3 : Int) => if 0 ≤ q3 ∧ q3 < 65536 then (some q3) else none)) else none
-- X3_fits
def M3_fits (N : Nat) (a0 : Int) (a1 : Int) (μ0 : mm) : Option Int := (M3_letterAt N a0 μ0).bind fun (q1 : Int) => if inR a1 then (if a1 = 48 then (if inR q1 then (if q1 < 48 then (some 0) else (if inR q1 then (if 57 < q1 then (some 0) else (some 1)) else none)) else none) else (if a1 = 107 then ((M3_kindAt N a0 μ0).bind fun (q8 : Int) => if inR q8 then (if q8 < 0 then (some 0) else (some 1)) else none) else (if inR q1 ∧ inR a1 then (if q1 = a1 then (some 1) else (some 0)) else none))) else none
-- X3_firstWrong
def L3_firstWrong_42 (N : Nat) (rec11 : Int → mm → Option Int) : Nat → Int → Nat → Int → mm → Option Int
  | 0, _, _, _, _ => none
  | k + 1, x1, r2, x3, μ => (M0_length_8abf5 N r2 μ).bind fun (q8 : Int) => if inR x3 ∧ inR q8 then (if q8 ≤ x3 then (rec11 x1 μ) else ((M0_charAt_5068e N r2 x3 μ).bind fun (q10 : Int) => (M3_fits N x1 q10 μ).bind fun (q11 : Int) => if inR q11 then (if q11 = 0 then (some x1) else (L3_firstWrong_42 N rec11 k (x1 + 1) r2 (x3 + 1) μ)) else none)) else none
def L3_firstWrong_11 (N : Nat) : Nat → Int → mm → Option Int
  | 0, _, _ => none
  | k + 1, x1, μ => if inR x1 ∧ inR (μ 44 1) then (if (μ 44 1) ≤ x1 then (some (-1)) else ((M3_letterAt N x1 μ).bind fun (q3 : Int) => (M3_behind N q3 μ).bind fun (q4 : Nat) => if 60 ≤ q4 ∧ q4 < 66 then ((M0_isEmpty_aae02 N q4 μ).bind fun (q6 : Int) => if inR q6 then (if q6 = 0 then (L3_firstWrong_42 N (L3_firstWrong_11 N k) N (x1 + 1) q4 0 μ) else (some x1)) else none) else none)) else none
def M3_firstWrong (N : Nat)  (μ0 : mm) : Option Int := if inR (μ0 44 1) then (if (μ0 44 1) = 0 then (some 0) else (L3_firstWrong_11 N N 0 μ0)) else none
-- X4_outside
def M4_outside (N : Nat) (a0 : Int) (a1 : Int) (a2 : Int) (μ0 : mm) : Option Int := if inR a0 ∧ inR a1 then (if a1 ≤ a0 then (if inR a0 ∧ inR a2 then (if a0 ≤ a2 then (some 0) else (some (-6))) else none) else (some (-4))) else none
-- X4_refused
def M4_refused (N : Nat) (a0 : Int) (μ : mm) : Option (Int × mm) := bnd (-a0) fun (w1 : Int) => if inR w1 then (if w1 < 0 then (some (a0, μ)) else (if inR w1 then (if 7 ≤ w1 then (some (a0, μ)) else (if 0 ≤ w1 ∧ w1 < 7 then (if 0 ≤ w1 ∧ w1 < 7 then (bnd (mu μ 47 (w1).toNat ((μ 47 (w1).toNat) + 1)) fun (μ6 : mm) => some (a0, μ6)) else none) else none)) else none)) else none
-- X4_letter
def J4_letter_28 (N : Nat) (x1 : Int) (x2 : Int) (μ : mm) : Option (Int × mm) := if inR x2 then (if x2 = 0 then ((M3_add N x1 μ).bind fun (q4 : mm) => some ((q4 44 1), q4)) else ((M4_refused N x2 μ).bind fun (q5 : (Int × mm)) => some (q5.1, q5.2))) else none
def M4_letter (N : Nat) (a0 : Int) (μ : mm) : Option (Int × mm) := (M4_outside N a0 0 255 μ).bind fun (q1 : Int) => if inR q1 then (if q1 = 0 then (if inR (μ 44 1) then (if (μ 44 1) < 96 then (J4_letter_28 N a0 q1 μ) else (J4_letter_28 N a0 (-6) μ)) else none) else (J4_letter_28 N a0 q1 μ)) else none
-- X4_comes
def M4_comes (N : Nat) (a0 : Int) (μ : mm) : Option (Int × mm) := (M3_number N (a0 + 1) 1 μ).bind fun (q1 : Int) => (M3_letterAt N a0 μ).bind fun (q2 : Int) => if inR q2 then (if q2 = 100 then ((M3_number N (a0 + 1) 2 μ).bind fun (q4 : Int) => (M1_daysCome N 21 q4 μ).bind fun (q5 : (Int × mm)) => if (q5.1 = 0 ∨ q5.1 = 1) then (some (q5.1, q5.2)) else none) else (if q2 = 101 then (some (0, μ)) else (if q2 = 102 then (some (0, μ)) else (if q2 = 103 then ((M3_number N (a0 + 1) 3 μ).bind fun (q10 : Int) => (M1_fill N 21 q10 μ).bind fun (q11 : (Int × mm)) => if (q11.1 = 0 ∨ q11.1 = 1) then (some (q11.1, q11.2)) else none) else (if q2 = 104 then (some (0, μ)) else (if q2 = 105 then ((M3_number N (a0 + 2) 2 μ).bind fun (q15 : Int) => (M1_issue N 21 q1 q15 μ).bind fun (q16 : (Int × mm)) => if (q16.1 = 0 ∨ q16.1 = 1) then (some (q16.1, q16.2)) else none) else (if q2 = 106 then (some (0, μ)) else (if q2 = 107 then (some (0, μ)) else (if q2 = 108 then (some (0, μ)) else (if q2 = 109 then (some (0, μ)) else (if q2 = 110 then (some (0, μ)) else (if q2 = 111 then (some (0, μ)) else (if q2 = 112 then ((M3_kindAt N (a0 + 1) μ).bind fun (q25 : Int) => (M3_number N (a0 + 2) 1 μ).bind fun (q26 : Int) => (M3_number N (a0 + 3) 2 μ).bind fun (q27 : Int) => (M1_welcome N 21 q25 q26 q27 μ).bind fun (q28 : (Int × mm)) => if (q28.1 = 0 ∨ q28.1 = 1) then (some (q28.1, q28.2)) else none) else (if q2 = 113 then (some (0, μ)) else (if q2 = 114 then ((M1_handIn N 21 q1 μ).bind fun (q32 : (Int × mm)) => if (q32.1 = 0 ∨ q32.1 = 1) then (some (q32.1, q32.2)) else none) else (if q2 = 115 then (some (0, μ)) else (if q2 = 116 then (some (0, μ)) else (if q2 = 117 then ((M3_number N (a0 + 2) 2 μ).bind fun (q37 : Int) => (M1_setDue N 21 q1 q37 μ).bind fun (q38 : (Int × mm)) => if (q38.1 = 0 ∨ q38.1 = 1) then (some (q38.1, q38.2)) else none) else (some (0, μ)))))))))))))))))))) else none
-- X4_read
def J4_read_81 (N : Nat) (x2 : Int) (μ : mm) : Option (Int × mm) := (M1_takeFrom N 10 21 μ).bind fun (q5 : mm) => some (x2, q5)
def L4_read_33 (N : Nat) : Nat → Int → Int → mm → Option (Int × mm)
  | 0, _, _, _ => none
  | k + 1, x2, x3, μ => if inR x3 ∧ inR (μ 44 1) then (if (μ 44 1) ≤ x3 then (J4_read_81 N x2 μ) else (if inR x2 then (if 96 ≤ x2 then (J4_read_81 N x2 μ) else ((M4_comes N x3 μ).bind fun (q7 : (Int × mm)) => if inR q7.1 then (if q7.1 = 0 then (some (((-2000) - x3), q7.2)) else ((M3_lengthAt N x3 q7.2).bind fun (q9 : Int) => bnd (x3 + q9) fun (w10 : Int) => L4_read_33 N k (x2 + 1) w10 q7.2)) else none)) else none)) else none
def M4_read (N : Nat)  (μ : mm) : Option (Int × mm) := (M3_firstWrong N μ).bind fun (q1 : Int) => if inR q1 then (if q1 < 0 then ((M1_takeFrom N 21 10 μ).bind fun (q3 : mm) => L4_read_33 N N 0 0 q3) else (some (((-1000) - q1), μ))) else none
-- X4_counter
def M4_counter (N : Nat)  (μ : mm) : Option (Int × mm) := (M4_read N μ).bind fun (q1 : (Int × mm)) => bnd (mu q1.2 44 1 0) fun (μ2 : mm) => some (q1.1, μ2)
-- X4_unknown
def M4_unknown (N : Nat) (a0 : Int) (μ0 : mm) : Option Int := (M1_knows N 10 a0 μ0).bind fun (q1 : Int) => if inR q1 then (if q1 = 0 then (some (-1)) else (some 0)) else none
-- X4_other
def M4_other (N : Nat) (a0 : Int) (a1 : Int) (μ0 : mm) : Option Int := if inR a0 then (if a0 < 0 then (some (-2)) else (if inR a0 ∧ inR a1 then (if a0 ≤ a1 then (some 0) else (some (-2))) else none)) else none
-- X4_firstOf
def M4_firstOf (N : Nat) (a0 : Int) (a1 : Int) (a2 : Int) (μ0 : mm) : Option Int := if inR a0 then (if a0 = 0 then (if inR a1 then (if a1 = 0 then (some a2) else (some a1)) else none) else (some a0)) else none
-- X4_person
def M4_person (N : Nat) (a0 : Int) (a1 : Int) (μ : mm) : Option (Int × mm) := (M4_unknown N a0 μ).bind fun (q1 : Int) => (M4_other N a1 7 μ).bind fun (q2 : Int) => (M4_firstOf N q1 q2 0 μ).bind fun (q3 : Int) => if inR q3 then (if q3 = 0 then ((M1_at N 10 a0 μ).bind fun (q5 : Nat) => if kd q5 = 5 then (if inR a1 then (if a1 = 0 then (some ((μ q5 0), μ)) else (if a1 = 1 then (some ((μ q5 1), μ)) else (if a1 = 2 then (some ((μ q5 2), μ)) else (if a1 = 3 then (some ((μ q5 3), μ)) else (if a1 = 4 then (some ((μ q5 4), μ)) else (if a1 = 5 then (some ((μ q5 5), μ)) else (if a1 = 6 then ((M2_needed N q5 μ).bind fun (q14 : Int) => some (q14, μ)) else ((M2_lacking N q5 μ).bind fun (q16 : Int) => some (q16, μ))))))))) else none) else none) else ((M4_refused N q3 μ).bind fun (q17 : (Int × mm)) => some (q17.1, q17.2))) else none
-- X4_issues
def M4_issues (N : Nat) (a0 : Int) (a1 : Int) (μ : mm) : Option (Int × mm) := (M4_unknown N a0 μ).bind fun (q1 : Int) => (M4_outside N a1 0 99 μ).bind fun (q2 : Int) => (M4_firstOf N q1 q2 0 μ).bind fun (q3 : Int) => if inR q3 then (if q3 = 0 then ((M1_issue N 10 a0 a1 μ).bind fun (q5 : (Int × mm)) => if inR q5.1 then (if q5.1 = 0 then ((M4_refused N (-3) q5.2).bind fun (q7 : (Int × mm)) => some (q7.1, q7.2)) else (some ((q5.2 10 3), q5.2))) else none) else ((M4_refused N q3 μ).bind fun (q9 : (Int × mm)) => some (q9.1, q9.2))) else none
-- X4_returns
def J4_returns_27 (N : Nat) (x1 : Int) (x2 : Int) (μ : mm) : Option (Int × mm) := if inR x2 then (if x2 = 0 then ((M1_handIn N 10 x1 μ).bind fun (q4 : (Int × mm)) => some ((q4.2 10 3), q4.2)) else ((M4_refused N x2 μ).bind fun (q5 : (Int × mm)) => some (q5.1, q5.2))) else none
def M4_returns (N : Nat) (a0 : Int) (μ : mm) : Option (Int × mm) := (M4_unknown N a0 μ).bind fun (q1 : Int) => if inR q1 then (if q1 = 0 then ((M1_at N 10 a0 μ).bind fun (q7 : Nat) => if kd q7 = 5 then (if inR (μ q7 2) then (if (μ q7 2) = 0 then (J4_returns_27 N a0 (-3) μ) else (J4_returns_27 N a0 q1 μ)) else none) else none) else (J4_returns_27 N a0 q1 μ)) else none
-- X4_due
def M4_due (N : Nat) (a0 : Int) (a1 : Int) (μ : mm) : Option (Int × mm) := (M4_unknown N a0 μ).bind fun (q1 : Int) => (M4_outside N a1 0 60 μ).bind fun (q2 : Int) => (M4_firstOf N q1 q2 0 μ).bind fun (q3 : Int) => if inR q3 then (if q3 = 0 then ((M1_at N 10 a0 μ).bind fun (q5 : Nat) => if kd q5 = 5 then (bnd (μ q5 3) fun (w7 : Int) => bnd (mu μ q5 3 a1) fun (μ8 : mm) => some (w7, μ8)) else none) else ((M4_refused N q3 μ).bind fun (q9 : (Int × mm)) => some (q9.1, q9.2))) else none
-- X4_fills
def M4_fills (N : Nat) (a0 : Int) (μ : mm) : Option (Int × mm) := (M4_outside N a0 0 99 μ).bind fun (q1 : Int) => if inR q1 then (if q1 = 0 then ((M1_fill N 10 a0 μ).bind fun (q3 : (Int × mm)) => if inR q3.1 then (if q3.1 = 0 then ((M4_refused N (-6) q3.2).bind fun (q5 : (Int × mm)) => some (q5.1, q5.2)) else (some ((q3.2 10 3), q3.2))) else none) else ((M4_refused N q1 μ).bind fun (q7 : (Int × mm)) => some (q7.1, q7.2))) else none
-- X4_turn
def M4_turn (N : Nat) (a0 : Int) (a1 : Int) (a2 : Int) (μ : mm) : Option (Int × mm) := (M4_unknown N a0 μ).bind fun (q1 : Int) => (M4_other N a1 5 μ).bind fun (q2 : Int) => (M4_outside N a2 0 9 μ).bind fun (q3 : Int) => (M4_firstOf N q1 q2 q3 μ).bind fun (q4 : Int) => if inR q4 then (if q4 = 0 then ((M1_at N 10 a0 μ).bind fun (q6 : Nat) => if kd q6 = 5 then (bnd ((10 * (μ q6 0)) + (μ q6 1)) fun (w8 : Int) => bnd (mu μ q6 0 a1) fun (μ9 : mm) => bnd (mu μ9 q6 1 a2) fun (μ10 : mm) => some (w8, μ10)) else none) else ((M4_refused N q4 μ).bind fun (q11 : (Int × mm)) => some (q11.1, q11.2))) else none
-- X4_days
def J4_days_30 (N : Nat) (x1 : Int) (x2 : Int) (μ : mm) : Option (Int × mm) := if inR x2 then (if x2 = 0 then ((M1_allThrough N 10 μ).bind fun (q4 : Int) => (M1_daysGoBy N 10 x1 μ).bind fun (q5 : mm) => (M1_allThrough N 10 q5).bind fun (q6 : Int) => some ((q6 - q4), q5)) else ((M4_refused N x2 μ).bind fun (q7 : (Int × mm)) => some (q7.1, q7.2))) else none
def M4_days (N : Nat) (a0 : Int) (μ : mm) : Option (Int × mm) := (M4_outside N a0 1 60 μ).bind fun (q1 : Int) => if inR q1 then (if q1 = 0 then (if inR ((μ 10 5) + a0) then (if ((μ 10 5) + a0) ≤ 999 then (J4_days_30 N a0 q1 μ) else (J4_days_30 N a0 (-6) μ)) else none) else (J4_days_30 N a0 q1 μ)) else none
-- X4_thought
def L4_thought_26 (N : Nat) : Nat → Int → Int → mm → Option (Nat × mm)
  | 0, _, _, _ => none
  | k + 1, x3, x4, μ => if inR x4 ∧ inR x3 then (if x3 ≤ x4 then (some (43, μ)) else ((M2_oneDay N 43 μ).bind fun (q6 : (Int × mm)) => L4_thought_26 N k x3 (x4 + 1) q6.2)) else none
def M4_thought (N : Nat) (a0 : Int) (a1 : Int) (a2 : Int) (μ : mm) : Option (Nat × mm) := (M1_at N 10 a0 μ).bind fun (q1 : Nat) => if kd q1 = 5 then ((M2_takeFrom N 43 q1 μ).bind fun (q3 : mm) => bnd (mu q3 43 2 a1) fun (μ4 : mm) => L4_thought_26 N N a2 0 μ4) else none
-- X4_personThen
def M4_personThen (N : Nat) (a0 : Int) (a1 : Int) (a2 : Int) (μ : mm) : Option (Int × mm) := (M4_unknown N a0 μ).bind fun (q1 : Int) => (M4_outside N a1 0 99 μ).bind fun (q2 : Int) => (M4_other N a2 4 μ).bind fun (q3 : Int) => (M4_firstOf N q1 q2 q3 μ).bind fun (q4 : Int) => if inR q4 then (if q4 = 0 then ((M1_at N 10 a0 μ).bind fun (q6 : Nat) => if kd q6 = 5 then ((M4_thought N a0 (μ q6 2) a1 μ).bind fun (q8 : (Nat × mm)) => if kd q8.1 = 5 then (if inR a2 then (if a2 = 0 then (some ((q8.2 q8.1 2), q8.2)) else (if a2 = 1 then (some ((q8.2 q8.1 3), q8.2)) else (if a2 = 2 then (some ((q8.2 q8.1 4), q8.2)) else (if a2 = 3 then (some ((q8.2 q8.1 5), q8.2)) else (if inR (q8.2 q8.1 5) ∧ inR (q8.2 q6 5) then (if (q8.2 q8.1 5) ≤ (q8.2 q6 5) then (some (0, q8.2)) else (some (1, q8.2))) else none))))) else none) else none) else none) else ((M4_refused N q4 μ).bind fun (q17 : (Int × mm)) => some (q17.1, q17.2))) else none
-- X4_allThen
def M4_allThen (N : Nat) (a0 : Int) (a1 : Int) (μ : mm) : Option (Int × mm) := (M4_outside N a0 0 99 μ).bind fun (q1 : Int) => (M4_other N a1 2 μ).bind fun (q2 : Int) => (M4_firstOf N q1 q2 0 μ).bind fun (q3 : Int) => if inR q3 then (if q3 = 0 then ((M1_takeFrom N 21 10 μ).bind fun (q5 : mm) => (M1_daysGoBy N 21 a0 q5).bind fun (q6 : mm) => if inR a1 then (if a1 = 0 then ((M1_allThrough N 21 q6).bind fun (q11 : Int) => some (q11, q6)) else (if inR a1 then (if a1 = 1 then ((M1_allShort N 21 q6).bind fun (q9 : Int) => some (q9, q6)) else (some ((q6 21 4), q6))) else none)) else none) else ((M4_refused N q3 μ).bind fun (q13 : (Int × mm)) => some (q13.1, q13.2))) else none
-- X4_first
def L4_first_29 (N : Nat) : Nat → Int → Int → mm → Option (Int × mm)
  | 0, _, _, _ => none
  | k + 1, x1, x3, μ => if inR x3 then (if 99 < x3 then (some ((-9), μ)) else ((M1_daysGoBy N 21 1 μ).bind fun (q5 : mm) => (M1_firstMissing N 21 q5).bind fun (q6 : Int) => if inR q6 then (if q6 < 0 then (L4_first_29 N k x1 (x3 + 1) q5) else (if inR x1 then (if x1 = 0 then (some (q6, q5)) else (some (x3, q5))) else none)) else none)) else none
def M4_first (N : Nat) (a0 : Int) (μ : mm) : Option (Int × mm) := (M4_other N a0 1 μ).bind fun (q1 : Int) => if inR q1 then (if q1 = 0 then ((M1_takeFrom N 21 10 μ).bind fun (q3 : mm) => L4_first_29 N N a0 1 q3) else ((M4_refused N q1 μ).bind fun (q12 : (Int × mm)) => some (q12.1, q12.2))) else none
-- X4_lasts
def L4_lasts_33 (N : Nat) : Nat → Int → mm → Option (Int × mm)
  | 0, _, _ => none
  | k + 1, x3, μ => if inR x3 then (if 99 < x3 then (some ((μ 43 6), μ)) else (if inR (μ 43 7) then (if (μ 43 7) = 0 then ((M2_oneDay N 43 μ).bind fun (q8 : (Int × mm)) => L4_lasts_33 N k (x3 + 1) q8.2) else (some ((μ 43 6), μ))) else none)) else none
def M4_lasts (N : Nat) (a0 : Int) (μ : mm) : Option (Int × mm) := (M4_unknown N a0 μ).bind fun (q1 : Int) => if inR q1 then (if q1 = 0 then ((M1_at N 10 a0 μ).bind fun (q3 : Nat) => if kd q3 = 5 then ((M2_takeFrom N 43 q3 μ).bind fun (q5 : mm) => L4_lasts_33 N N 1 q5) else none) else ((M4_refused N q1 μ).bind fun (q11 : (Int × mm)) => some (q11.1, q11.2))) else none
-- X4_lacks
def L4_lacks_4 (N : Nat) : Nat → Int → Int → mm → Option Int
  | 0, _, _, _ => none
  | k + 1, x1, x2, μ => if inR x2 ∧ inR (μ 10 2) then (if (μ 10 2) ≤ x2 then (some x1) else ((M1_at N 10 x2 μ).bind fun (q2 : Nat) => if kd q2 = 5 then ((M2_lacking N q2 μ).bind fun (q4 : Int) => bnd (x1 + q4) fun (w5 : Int) => L4_lacks_4 N k w5 (x2 + 1) μ) else none)) else none
def M4_lacks (N : Nat)  (μ0 : mm) : Option Int := L4_lacks_4 N N 0 0 μ0
-- X4_next
def J4_next_75 (N : Nat) (rec26 : Int → Int → Int → Int → mm → Option (Int × mm)) (x1 : Int) (x3 : Int) (x4 : Int) (x5 : Int) (μ : mm) : Option (Int × mm) := rec26 x1 x3 x4 (x5 + 1) μ
def J4_next_68 (N : Nat) (rec26 : Int → Int → Int → Int → mm → Option (Int × mm)) (x1 : Int) (x5 : Int) (x6 : Int) (μ : mm) : Option (Int × mm) := J4_next_75 N rec26 x1 x5 x6 x5 μ
def L4_next_26 (N : Nat) : Nat → Int → Int → Int → Int → mm → Option (Int × mm)
  | 0, _, _, _, _, _ => none
  | k + 1, x1, x3, x4, x5, μ => if inR x5 ∧ inR (μ 10 2) then (if (μ 10 2) ≤ x5 then (if inR x1 then (if x1 = 0 then (some (x3, μ)) else (some (x4, μ))) else none) else ((M1_at N 10 x5 μ).bind fun (q6 : Nat) => if kd q6 = 5 then (bnd (μ q6 3) fun (w8 : Int) => if inR w8 then (if w8 ≤ 0 then (J4_next_75 N (L4_next_26 N k) x1 x3 x4 x5 μ) else (if inR x3 then (if x3 < 0 then (J4_next_68 N (L4_next_26 N k) x1 x5 w8 μ) else (if inR w8 ∧ inR x4 then (if x4 ≤ w8 then (J4_next_75 N (L4_next_26 N k) x1 x3 x4 x5 μ) else (J4_next_68 N (L4_next_26 N k) x1 x5 w8 μ)) else none)) else none)) else none) else none)) else none
def M4_next (N : Nat) (a0 : Int) (μ : mm) : Option (Int × mm) := (M4_other N a0 1 μ).bind fun (q1 : Int) => if inR q1 then (if q1 = 0 then (L4_next_26 N N a0 (-9) (-9) 0 μ) else ((M4_refused N q1 μ).bind fun (q16 : (Int × mm)) => some (q16.1, q16.2))) else none
-- X4_enough
def L4_enough_30 (N : Nat) : Nat → Int → Int → Int → mm → Option (Int × mm)
  | 0, _, _, _, _ => none
  | k + 1, x1, x2, x4, μ => if inR x4 then (if 99 < x4 then (some ((-9), μ)) else ((M4_thought N x1 x4 x2 μ).bind fun (q6 : (Nat × mm)) => if kd q6.1 = 5 then (if inR (q6.2 q6.1 7) then (if (q6.2 q6.1 7) = 0 then (some (x4, q6.2)) else (L4_enough_30 N k x1 x2 (x4 + 1) q6.2)) else none) else none)) else none
def M4_enough (N : Nat) (a0 : Int) (a1 : Int) (μ : mm) : Option (Int × mm) := (M4_unknown N a0 μ).bind fun (q1 : Int) => (M4_outside N a1 1 60 μ).bind fun (q2 : Int) => (M4_firstOf N q1 q2 0 μ).bind fun (q3 : Int) => if inR q3 then (if q3 = 0 then (L4_enough_30 N N a0 a1 0 μ) else ((M4_refused N q3 μ).bind fun (q11 : (Int × mm)) => some (q11.1, q11.2))) else none
-- X4_serve
def J4_serve_89 (N : Nat) (rec24 : Int → Int → Int → Int → mm → Option (Int × mm)) (x1 : Int) (x3 : Int) (x4 : Int) (x5 : Int) (μ : mm) : Option (Int × mm) := rec24 x1 x3 x4 (x5 + 1) μ
def L4_serve_24 (N : Nat) : Nat → Int → Int → Int → Int → mm → Option (Int × mm)
  | 0, _, _, _, _, _ => none
  | k + 1, x1, x3, x4, x5, μ => if 0 ≤ (μ 10 2) ∧ (μ 10 2) < 32 then (if inR x5 ∧ inR (1 * 2 ^ ((μ 10 2) : Int).toNat) then (if (1 * 2 ^ ((μ 10 2) : Int).toNat) ≤ x5 then (if inR x1 then (if x1 = 0 then (some (x3, μ)) else (if inR x1 then (if x1 = 1 then (some (x4, μ)) else ((M1_lackOf N 10 x4 μ).bind fun (q7 : Int) => some (((μ 10 3) - q7), μ))) else none)) else none) else ((M6_bitCount_0f7a4 N x5 μ).bind fun (q10 : Int) => if inR q10 ∧ inR x3 then (if q10 ≤ x3 then (J4_serve_89 N (L4_serve_24 N k) x1 x3 x4 x5 μ) else ((M1_lackAll N 10 x5 μ).bind fun (q12 : Int) => if inR q12 then (if q12 = 0 then (J4_serve_89 N (L4_serve_24 N k) x1 x3 x4 x5 μ) else ((M1_lackOf N 10 x5 μ).bind fun (q14 : Int) => if inR q14 ∧ inR (μ 10 3) then (if (μ 10 3) < q14 then (J4_serve_89 N (L4_serve_24 N k) x1 x3 x4 x5 μ) else (J4_serve_89 N (L4_serve_24 N k) x1 q10 x5 x5 μ)) else none)) else none)) else none)) else none) else none
def M4_serve (N : Nat) (a0 : Int) (μ : mm) : Option (Int × mm) := (M4_other N a0 2 μ).bind fun (q1 : Int) => if inR q1 then (if q1 = 0 then (L4_serve_24 N N a0 0 0 1 μ) else ((M4_refused N q1 μ).bind fun (q20 : (Int × mm)) => some (q20.1, q20.2))) else none
-- X4_throughMore
def M4_throughMore (N : Nat) (a0 : Int) (a1 : Int) (a2 : Int) (μ : mm) : Option (Int × mm) := (M4_thought N a0 a1 a2 μ).bind fun (q1 : (Nat × mm)) => if kd q1.1 = 5 then ((M1_at N 10 a0 q1.2).bind fun (q3 : Nat) => if kd q3 = 5 then (some (((q1.2 q1.1 4) - (q1.2 q3 4)), q1.2)) else none) else none
-- X4_weigh
def L4_weigh_2 (N : Nat) : Nat → Int → Int → mm → Option mm
  | 0, _, _, _ => none
  | k + 1, x1, x2, μ => if inR x2 ∧ inR (μ 10 2) then (if (μ 10 2) ≤ x2 then (some μ) else (if inR x2 then (if 8 ≤ x2 then (some μ) else ((M1_at N 10 x2 μ).bind fun (q3 : Nat) => if kd q3 = 5 then (bnd (μ q3 2) fun (w5 : Int) => (M1_at N 10 x2 μ).bind fun (q6 : Nat) => if kd q6 = 5 then ((M2_lacking N q6 μ).bind fun (q8 : Int) => (M4_throughMore N x2 w5 x1 μ).bind fun (q9 : (Int × mm)) => if 0 ≤ x2 ∧ x2 < 8 then (bnd (mu q9.2 48 (x2).toNat q9.1) fun (μ11 : mm) => (M4_throughMore N x2 (w5 + q8) x1 μ11).bind fun (q12 : (Int × mm)) => if 0 ≤ x2 ∧ x2 < 8 then (bnd (mu q12.2 49 (x2).toNat q12.1) fun (μ14 : mm) => L4_weigh_2 N k x1 (x2 + 1) μ14) else none) else none) else none) else none)) else none)) else none
def M4_weigh (N : Nat) (a0 : Int) (μ : mm) : Option mm := L4_weigh_2 N N a0 0 μ
-- X4_weighed
def M4_weighed (N : Nat) (a0 : Int) (a1 : Int) (μ0 : mm) : Option Int := if inR a0 then (if a0 < 0 then (some 0) else (if inR a0 then (if a0 < 8 then (if inR a1 then (if a1 = 0 then (if 0 ≤ a0 ∧ a0 < 8 then (some (μ0 48 (a0).toNat)) else none) else (if 0 ≤ a0 ∧ a0 < 8 then (some (μ0 49 (a0).toNat)) else none)) else none) else (some 0)) else none)) else none
-- X4_throughOf
def J4_throughOf_72 (N : Nat) (rec13 : Int → Int → Int → Int → mm → Option Int) (x1 : Int) (x2 : Int) (x3 : Int) (x4 : Int) (x6 : Int) (μ : mm) : Option Int := (M4_weighed N x4 x6 μ).bind fun (q9 : Int) => bnd (x3 + q9) fun (w10 : Int) => rec13 x1 x2 w10 (x4 + 1) μ
def J4_throughOf_60 (N : Nat) (rec13 : Int → Int → Int → Int → mm → Option Int) (x1 : Int) (x2 : Int) (x3 : Int) (x4 : Int) (x5 : Int) (y0 : Int) (μ : mm) : Option Int := if inR y0 then (if y0 = 0 then (J4_throughOf_72 N rec13 x1 x2 x3 x4 y0 μ) else (bnd (x2 - x5) fun (w11 : Int) => J4_throughOf_72 N rec13 x1 w11 x3 x4 y0 μ)) else none
def J4_throughOf_59 (N : Nat) (rec13 : Int → Int → Int → Int → mm → Option Int) (x1 : Int) (x2 : Int) (x3 : Int) (x4 : Int) (x5 : Int) (μ : mm) : Option Int := J4_throughOf_60 N rec13 x1 x2 x3 x4 x5 0 μ
def L4_throughOf_13 (N : Nat) : Nat → Int → Int → Int → Int → mm → Option Int
  | 0, _, _, _, _, _ => none
  | k + 1, x1, x2, x3, x4, μ => if inR x4 ∧ inR (μ 10 2) then (if (μ 10 2) ≤ x4 then (some x3) else ((M1_at N 10 x4 μ).bind fun (q3 : Nat) => if kd q3 = 5 then ((M2_lacking N q3 μ).bind fun (q5 : Int) => if inR x1 ∧ 0 ≤ x4 ∧ x4 < 32 then (if inR ((x1 / 2 ^ (x4 : Int).toNat) % 2) then (if ((x1 / 2 ^ (x4 : Int).toNat) % 2) = 1 then (if inR q5 ∧ inR x2 then (if x2 < q5 then (J4_throughOf_59 N (L4_throughOf_13 N k) x1 x2 x3 x4 q5 μ) else (J4_throughOf_60 N (L4_throughOf_13 N k) x1 x2 x3 x4 q5 1 μ)) else none) else (J4_throughOf_59 N (L4_throughOf_13 N k) x1 x2 x3 x4 q5 μ)) else none) else none) else none)) else none
def M4_throughOf (N : Nat) (a0 : Int) (μ0 : mm) : Option Int := bnd (μ0 10 3) fun (w1 : Int) => L4_throughOf_13 N N a0 w1 0 0 μ0
-- X4_best
def J4_best_79 (N : Nat) (rec42 : Int → Int → Int → Int → mm → Option (Int × mm)) (x2 : Int) (x4 : Int) (x5 : Int) (x6 : Int) (μ : mm) : Option (Int × mm) := rec42 x2 x4 x5 (x6 + 1) μ
def L4_best_42 (N : Nat) : Nat → Int → Int → Int → Int → mm → Option (Int × mm)
  | 0, _, _, _, _, _ => none
  | k + 1, x2, x4, x5, x6, μ => if 0 ≤ (μ 10 2) ∧ (μ 10 2) < 32 then (if inR x6 ∧ inR (1 * 2 ^ ((μ 10 2) : Int).toNat) then (if (1 * 2 ^ ((μ 10 2) : Int).toNat) ≤ x6 then (if inR x2 then (if x2 = 0 then (some (x4, μ)) else (some (x5, μ))) else none) else ((M4_throughOf N x6 μ).bind fun (q10 : Int) => if inR q10 ∧ inR x4 then (if q10 ≤ x4 then (J4_best_79 N (L4_best_42 N k) x2 x4 x5 x6 μ) else (J4_best_79 N (L4_best_42 N k) x2 q10 x6 x6 μ)) else none)) else none) else none
def M4_best (N : Nat) (a0 : Int) (a1 : Int) (μ : mm) : Option (Int × mm) := (M4_outside N a0 1 30 μ).bind fun (q1 : Int) => (M4_other N a1 1 μ).bind fun (q2 : Int) => (M4_firstOf N q1 q2 0 μ).bind fun (q3 : Int) => if inR q3 then (if q3 = 0 then ((M4_weigh N a0 μ).bind fun (q5 : mm) => L4_best_42 N N a1 (-9) 0 0 q5) else ((M4_refused N q3 μ).bind fun (q14 : (Int × mm)) => some (q14.1, q14.2))) else none
-- X4_run
def L4_run_29 (N : Nat) : Nat → Int → Int → mm → Option (Int × mm)
  | 0, _, _, _ => none
  | k + 1, x1, x3, μ => if inR x3 then (if 60 < x3 then (some ((-9), μ)) else ((M1_issueAhead N 21 μ).bind fun (q5 : (Int × mm)) => if inR q5.1 then (if q5.1 < 0 then ((M1_daysGoBy N 21 1 q5.2).bind fun (q7 : mm) => L4_run_29 N k x1 (x3 + 1) q7) else (if inR x1 then (if x1 = 0 then (some (x3, q5.2)) else (some (q5.1, q5.2))) else none)) else none)) else none
def M4_run (N : Nat) (a0 : Int) (μ : mm) : Option (Int × mm) := (M4_other N a0 1 μ).bind fun (q1 : Int) => if inR q1 then (if q1 = 0 then ((M1_takeFrom N 21 10 μ).bind fun (q3 : mm) => L4_run_29 N N a0 0 q3) else ((M4_refused N q1 μ).bind fun (q12 : (Int × mm)) => some (q12.1, q12.2))) else none
-- X4_stock
def L4_stock_41 (N : Nat) : Nat → Int → Int → mm → Option (Int × mm)
  | 0, _, _, _ => none
  | k + 1, x1, x3, μ => if inR x3 ∧ inR x1 then (if x1 ≤ x3 then (some ((999 - (μ 21 3)), μ)) else ((M1_issueAhead N 21 μ).bind fun (q6 : (Int × mm)) => if inR q6.1 then (if q6.1 < 0 then ((M1_daysGoBy N 21 1 q6.2).bind fun (q8 : mm) => L4_stock_41 N k x1 (x3 + 1) q8) else (some ((-9), q6.2))) else none)) else none
def M4_stock (N : Nat) (a0 : Int) (μ : mm) : Option (Int × mm) := (M4_outside N a0 1 30 μ).bind fun (q1 : Int) => if inR q1 then (if q1 = 0 then ((M1_takeFrom N 21 10 μ).bind fun (q3 : mm) => bnd (mu q3 21 3 999) fun (μ4 : mm) => L4_stock_41 N N a0 0 μ4) else ((M4_refused N q1 μ).bind fun (q11 : (Int × mm)) => some (q11.1, q11.2))) else none
-- X4_borrow
def J4_borrow_187 (N : Nat) (rec103 : Int → Int → Int → Int → Int → Int → Int → mm → Option (Int × mm)) (x1 : Int) (x2 : Int) (x5 : Int) (x6 : Int) (x7 : Int) (x8 : Int) (x9 : Int) (μ : mm) : Option (Int × mm) := rec103 x1 x2 x5 x6 x7 x8 (x9 + 1) μ
def L4_borrow_103 (N : Nat) : Nat → Int → Int → Int → Int → Int → Int → Int → mm → Option (Int × mm)
  | 0, _, _, _, _, _, _, _, _ => none
  | k + 1, x1, x2, x5, x6, x7, x8, x9, μ => if inR x9 ∧ inR (μ 10 2) then (if (μ 10 2) ≤ x9 then (some (x7, μ)) else ((M1_at N 10 x9 μ).bind fun (q17 : Nat) => if kd q17 = 5 then (bnd (μ q17 2) fun (w19 : Int) => if inR x9 ∧ inR x1 then (if x9 = x1 then (J4_borrow_187 N (L4_borrow_103 N k) x1 x2 x5 x6 x7 x8 x9 μ) else (if inR w19 ∧ inR x5 then (if x5 ≤ w19 then ((M4_throughMore N x9 (w19 - x5) x2 μ).bind fun (q22 : (Int × mm)) => (M4_throughMore N x9 w19 x2 q22.2).bind fun (q23 : (Int × mm)) => bnd ((x6 + q22.1) - q23.1) fun (w24 : Int) => if inR w24 ∧ inR x8 then (if w24 ≤ x8 then (J4_borrow_187 N (L4_borrow_103 N k) x1 x2 x5 x6 x7 x8 x9 q23.2) else (J4_borrow_187 N (L4_borrow_103 N k) x1 x2 x5 x6 x9 w24 x9 q23.2)) else none) else (J4_borrow_187 N (L4_borrow_103 N k) x1 x2 x5 x6 x7 x8 x9 μ)) else none)) else none) else none)) else none
def M4_borrow (N : Nat) (a0 : Int) (a1 : Int) (μ : mm) : Option (Int × mm) := (M4_unknown N a0 μ).bind fun (q1 : Int) => (M4_outside N a1 1 30 μ).bind fun (q2 : Int) => (M4_firstOf N q1 q2 0 μ).bind fun (q3 : Int) => if inR q3 then (if q3 = 0 then ((M1_at N 10 a0 μ).bind fun (q5 : Nat) => if kd q5 = 5 then (bnd (μ q5 2) fun (w7 : Int) => (M1_at N 10 a0 μ).bind fun (q8 : Nat) => if kd q8 = 5 then ((M2_lacking N q8 μ).bind fun (q10 : Int) => if inR q10 then (if q10 = 0 then (some ((-9), μ)) else (if inR (w7 + q10) then (if (w7 + q10) ≤ 99 then ((M4_throughMore N a0 (w7 + q10) a1 μ).bind fun (q13 : (Int × mm)) => (M4_throughMore N a0 w7 a1 q13.2).bind fun (q14 : (Int × mm)) => bnd (q13.1 - q14.1) fun (w15 : Int) => L4_borrow_103 N N a0 a1 q10 w15 (-9) 0 0 q14.2) else (some ((-9), μ))) else none)) else none) else none) else none) else ((M4_refused N q3 μ).bind fun (q32 : (Int × mm)) => some (q32.1, q32.2))) else none
-- X4_shortMore
def M4_shortMore (N : Nat) (a0 : Int) (a1 : Int) (a2 : Int) (μ : mm) : Option (Int × mm) := (M4_thought N a0 a1 a2 μ).bind fun (q1 : (Nat × mm)) => if kd q1.1 = 5 then ((M1_at N 10 a0 q1.2).bind fun (q3 : Nat) => if kd q3 = 5 then (some (((q1.2 q1.1 5) - (q1.2 q3 5)), q1.2)) else none) else none
-- X4_sweep
def J4_sweep_112 (N : Nat) (rec38 : Int → Int → Int → Int → Int → mm → Option (Int × mm)) (x1 : Int) (x2 : Int) (x4 : Int) (x5 : Int) (x6 : Int) (μ : mm) : Option (Int × mm) := rec38 x1 x2 x4 x5 (x6 + 1) μ
def J4_sweep_104 (N : Nat) (rec38 : Int → Int → Int → Int → Int → mm → Option (Int × mm)) (x1 : Int) (x2 : Int) (x6 : Int) (x8 : Int) (μ : mm) : Option (Int × mm) := J4_sweep_112 N rec38 x1 x2 x6 x8 x6 μ
def L4_sweep_38 (N : Nat) : Nat → Int → Int → Int → Int → Int → mm → Option (Int × mm)
  | 0, _, _, _, _, _, _ => none
  | k + 1, x1, x2, x4, x5, x6, μ => if inR x6 ∧ inR (μ 10 2) then (if (μ 10 2) ≤ x6 then (if inR x2 then (if x2 = 0 then (some (x4, μ)) else (some (x5, μ))) else none) else ((M1_at N 10 x6 μ).bind fun (q8 : Nat) => if kd q8 = 5 then (bnd (μ q8 2) fun (w10 : Int) => if inR w10 then (if w10 = 0 then (J4_sweep_112 N (L4_sweep_38 N k) x1 x2 x4 x5 x6 μ) else ((M4_shortMore N x6 0 x1 μ).bind fun (q12 : (Int × mm)) => (M4_shortMore N x6 w10 x1 q12.2).bind fun (q13 : (Int × mm)) => bnd (q12.1 - q13.1) fun (w14 : Int) => if inR x4 then (if x4 < 0 then (J4_sweep_104 N (L4_sweep_38 N k) x1 x2 x6 w14 q13.2) else (if inR w14 ∧ inR x5 then (if x5 ≤ w14 then (J4_sweep_112 N (L4_sweep_38 N k) x1 x2 x4 x5 x6 q13.2) else (J4_sweep_104 N (L4_sweep_38 N k) x1 x2 x6 w14 q13.2)) else none)) else none)) else none) else none)) else none
def M4_sweep (N : Nat) (a0 : Int) (a1 : Int) (μ : mm) : Option (Int × mm) := (M4_outside N a0 1 30 μ).bind fun (q1 : Int) => (M4_other N a1 1 μ).bind fun (q2 : Int) => (M4_firstOf N q1 q2 0 μ).bind fun (q3 : Int) => if inR q3 then (if q3 = 0 then (L4_sweep_38 N N a0 a1 (-9) (-9) 0 μ) else ((M4_refused N q3 μ).bind fun (q21 : (Int × mm)) => some (q21.1, q21.2))) else none
-- X4_grain
def J4_grain_100 (N : Nat) (rec27 : Int → Int → Int → Int → mm → Option (Int × mm)) (x1 : Int) (x3 : Int) (x4 : Int) (x5 : Int) (μ : mm) : Option (Int × mm) := rec27 x1 x3 x4 (x5 + 1) μ
def L4_grain_27 (N : Nat) : Nat → Int → Int → Int → Int → mm → Option (Int × mm)
  | 0, _, _, _, _, _ => none
  | k + 1, x1, x3, x4, x5, μ => if inR x5 ∧ inR (μ 10 2) then (if (μ 10 2) ≤ x5 then (some (x3, μ)) else ((M1_at N 10 x5 μ).bind fun (q4 : Nat) => if kd q4 = 5 then (bnd (μ q4 2) fun (w6 : Int) => if inR w6 then (if w6 < 99 then ((M4_throughMore N x5 (w6 + 1) x1 μ).bind fun (q8 : (Int × mm)) => (M4_throughMore N x5 w6 x1 q8.2).bind fun (q9 : (Int × mm)) => bnd (q8.1 - q9.1) fun (w10 : Int) => if inR w10 ∧ inR x4 then (if w10 ≤ x4 then (J4_grain_100 N (L4_grain_27 N k) x1 x3 x4 x5 q9.2) else (J4_grain_100 N (L4_grain_27 N k) x1 x5 w10 x5 q9.2)) else none) else (J4_grain_100 N (L4_grain_27 N k) x1 x3 x4 x5 μ)) else none) else none)) else none
def M4_grain (N : Nat) (a0 : Int) (μ : mm) : Option (Int × mm) := (M4_outside N a0 1 30 μ).bind fun (q1 : Int) => if inR q1 then (if q1 = 0 then (L4_grain_27 N N a0 (-9) 0 0 μ) else ((M4_refused N q1 μ).bind fun (q15 : (Int × mm)) => some (q15.1, q15.2))) else none
-- X4_shares
def M4_shares (N : Nat) (a0 : Int) (μ : mm) : Option (Int × mm) := (M4_other N a0 1 μ).bind fun (q1 : Int) => if inR q1 then (if q1 = 0 then (if inR (μ 10 2) then (if 1 ≤ (μ 10 2) then (if inR a0 then (if a0 = 0 then (if 0 ≤ (μ 10 3) ∧ 0 < (μ 10 2) ∧ inR (μ 10 3) ∧ inR (μ 10 2) then (some (((μ 10 3) / (μ 10 2)), μ)) else none) else (if 0 ≤ (μ 10 3) ∧ 0 < (μ 10 2) ∧ inR (μ 10 3) ∧ inR (μ 10 2) then (some (((μ 10 3) % (μ 10 2)), μ)) else none)) else none) else (if inR a0 then (if a0 = 0 then (some (0, μ)) else (some ((μ 10 3), μ))) else none)) else none) else ((M4_refused N q1 μ).bind fun (q11 : (Int × mm)) => some (q11.1, q11.2))) else none
-- X4_richest
def J4_richest_43 (N : Nat) (rec8 : Int → Int → Int → mm → Option Int) (x1 : Int) (x2 : Int) (x3 : Int) (μ : mm) : Option Int := rec8 x1 x2 (x3 + 1) μ
def L4_richest_8 (N : Nat) : Nat → Int → Int → Int → mm → Option Int
  | 0, _, _, _, _ => none
  | k + 1, x1, x2, x3, μ => if inR x3 ∧ inR (μ 10 2) then (if (μ 10 2) ≤ x3 then (some x1) else ((M1_at N 10 x3 μ).bind fun (q2 : Nat) => if kd q2 = 5 then (bnd (μ q2 2) fun (w4 : Int) => if inR w4 ∧ inR x2 then (if w4 ≤ x2 then (J4_richest_43 N (L4_richest_8 N k) x1 x2 x3 μ) else (J4_richest_43 N (L4_richest_8 N k) x3 w4 x3 μ)) else none) else none)) else none
def M4_richest (N : Nat)  (μ0 : mm) : Option Int := L4_richest_8 N N (-9) (-9) 0 μ0
-- X4_trusted
def M4_trusted (N : Nat) (a0 : Int) (μ : mm) : Option (Int × mm) := (M4_unknown N a0 μ).bind fun (q1 : Int) => if inR q1 then (if q1 = 0 then ((M1_at N 10 a0 μ).bind fun (q3 : Nat) => if kd q3 = 5 then (some (((μ q3 4) - (μ q3 5)), μ)) else none) else ((M4_refused N q1 μ).bind fun (q5 : (Int × mm)) => some ((1000000000 - q5.1), q5.2))) else none
-- X4_worth
def M4_worth (N : Nat)  (μ0 : mm) : Option Int := (M1_allThrough N 10 μ0).bind fun (q1 : Int) => (M1_allShort N 10 μ0).bind fun (q2 : Int) => some (q1 - q2)
-- X4_wants
def J4_wants_29 (N : Nat) (x1 : Int) (x4 : Int) (y0 : Int) (μ : mm) : Option Int := (M4_weighed N x1 y0 μ).bind fun (q5 : Int) => if inR y0 then (if y0 = 0 then (some (q5 - 0)) else (if 0 ≤ x4 ∧ inR x4 then (some (q5 - (x4 / 10))) else none)) else none
def J4_wants_28 (N : Nat) (x1 : Int) (x4 : Int) (μ : mm) : Option Int := J4_wants_29 N x1 x4 0 μ
def M4_wants (N : Nat) (a0 : Int) (a1 : Int) (a2 : Int) (μ0 : mm) : Option Int := (M1_at N 10 a0 μ0).bind fun (q1 : Nat) => if kd q1 = 5 then ((M2_lacking N q1 μ0).bind fun (q3 : Int) => if inR a1 then (if a1 = 1 then (if inR q3 ∧ inR a2 then (if a2 < q3 then (J4_wants_28 N a0 q3 μ0) else (J4_wants_29 N a0 q3 1 μ0)) else none) else (J4_wants_28 N a0 q3 μ0)) else none) else none
-- X4_firstWants
def M4_firstWants (N : Nat) (a0 : Int) (a1 : Int) (μ0 : mm) : Option Int := (M4_wants N a0 a1 (μ0 10 3) μ0).bind fun (q1 : Int) => some q1
-- X4_otherWants
def J4_otherWants_66 (N : Nat) (y0 : Int) (y1 : Int) (y2 : Int) (μ : mm) : Option Int := (M4_wants N y2 y1 y0 μ).bind fun (q6 : Int) => some q6
def J4_otherWants_35 (N : Nat) (x3 : Int) (x4 : Int) (x5 : Int) (y0 : Int) (μ : mm) : Option Int := if inR y0 then (if y0 = 0 then (J4_otherWants_66 N (μ 10 3) x4 x3 μ) else (J4_otherWants_66 N ((μ 10 3) - x5) x4 x3 μ)) else none
def J4_otherWants_34 (N : Nat) (x3 : Int) (x4 : Int) (x5 : Int) (μ : mm) : Option Int := J4_otherWants_35 N x3 x4 x5 0 μ
def M4_otherWants (N : Nat) (a0 : Int) (a1 : Int) (a2 : Int) (a3 : Int) (μ0 : mm) : Option Int := (M1_at N 10 a0 μ0).bind fun (q1 : Nat) => if kd q1 = 5 then ((M2_lacking N q1 μ0).bind fun (q3 : Int) => if inR a1 then (if a1 = 1 then (if inR q3 ∧ inR (μ0 10 3) then (if (μ0 10 3) < q3 then (J4_otherWants_34 N a2 a3 q3 μ0) else (J4_otherWants_35 N a2 a3 q3 1 μ0)) else none) else (J4_otherWants_34 N a2 a3 q3 μ0)) else none) else none
-- X4_two
def J4_two_131 (N : Nat) (rec60 : Int → Int → Int → mm → Option (Int × mm)) (x1 : Int) (x2 : Int) (x6 : Int) (μ : mm) : Option (Int × mm) := rec60 x1 x2 (x6 + 1) μ
def L4_two_60 (N : Nat) : Nat → Int → Int → Int → mm → Option (Int × mm)
  | 0, _, _, _, _ => none
  | k + 1, x1, x2, x6, μ => if inR x6 then (if 4 ≤ x6 then (some ((-9), μ)) else (if 0 ≤ x6 ∧ inR x6 then (bnd (x6 / 2) fun (w11 : Int) => if 0 ≤ x6 ∧ inR x6 then (bnd (x6 % 2) fun (w13 : Int) => (M4_firstWants N x1 w11 μ).bind fun (q14 : Int) => (M4_firstWants N x1 (1 - w11) μ).bind fun (q15 : Int) => if inR q14 ∧ inR q15 then (if q14 < q15 then (J4_two_131 N (L4_two_60 N k) x1 x2 x6 μ) else ((M4_otherWants N x1 w11 x2 w13 μ).bind fun (q17 : Int) => (M4_otherWants N x1 w11 x2 (1 - w13) μ).bind fun (q18 : Int) => if inR q17 ∧ inR q18 then (if q17 < q18 then (J4_two_131 N (L4_two_60 N k) x1 x2 x6 μ) else (some (((10 * w11) + w13), μ))) else none)) else none) else none) else none)) else none
def J4_two_20 (N : Nat) (x1 : Int) (x2 : Int) (x3 : Int) (y0 : Int) (y1 : Int) (y2 : Int) (μ : mm) : Option (Int × mm) := (M4_firstOf N y2 y1 y0 μ).bind fun (q4 : Int) => (M4_outside N x3 1 30 μ).bind fun (q5 : Int) => (M4_firstOf N q4 q5 0 μ).bind fun (q6 : Int) => if inR q6 then (if q6 = 0 then ((M4_weigh N x3 μ).bind fun (q8 : mm) => L4_two_60 N N x1 x2 0 q8) else ((M4_refused N q6 μ).bind fun (q23 : (Int × mm)) => some (q23.1, q23.2))) else none
def M4_two (N : Nat) (a0 : Int) (a1 : Int) (a2 : Int) (μ : mm) : Option (Int × mm) := (M4_unknown N a0 μ).bind fun (q1 : Int) => (M4_unknown N a1 μ).bind fun (q2 : Int) => if inR a0 ∧ inR a1 then (if a0 = a1 then (J4_two_20 N a0 a1 a2 (-1) q2 q1 μ) else (J4_two_20 N a0 a1 a2 0 q2 q1 μ)) else none
-- X4_throughLosing
def J4_throughLosing_61 (N : Nat) (rec22 : Int → Int → Nat → Int → mm → Option (Int × mm)) (x2 : Int) (x3 : Int) (r4 : Nat) (x5 : Int) (μ : mm) : Option (Int × mm) := (M2_oneDay N 43 μ).bind fun (q7 : (Int × mm)) => rec22 x2 x3 r4 (x5 + 1) q7.2
def L4_throughLosing_22 (N : Nat) : Nat → Int → Int → Nat → Int → mm → Option (Int × mm)
  | 0, _, _, _, _, _ => none
  | k + 1, x2, x3, r4, x5, μ => if inR x5 ∧ inR x2 then (if x2 ≤ x5 then (some (((μ 43 4) - (μ r4 4)), μ)) else (if inR x3 ∧ 0 ≤ x5 ∧ x5 < 32 then (if inR ((x3 / 2 ^ (x5 : Int).toNat) % 2) then (if ((x3 / 2 ^ (x5 : Int).toNat) % 2) = 1 then (if inR (μ 43 2) then (if (μ 43 2) ≤ 0 then (J4_throughLosing_61 N (L4_throughLosing_22 N k) x2 x3 r4 x5 μ) else (bnd (mu μ 43 2 ((μ 43 2) - 1)) fun (μ9 : mm) => J4_throughLosing_61 N (L4_throughLosing_22 N k) x2 x3 r4 x5 μ9)) else none) else (J4_throughLosing_61 N (L4_throughLosing_22 N k) x2 x3 r4 x5 μ)) else none) else none)) else none
def M4_throughLosing (N : Nat) (a0 : Int) (a1 : Int) (a2 : Int) (μ : mm) : Option (Int × mm) := (M1_at N 10 a0 μ).bind fun (q1 : Nat) => if kd q1 = 5 then ((M2_takeFrom N 43 q1 μ).bind fun (q3 : mm) => L4_throughLosing_22 N N a1 a2 q1 0 q3) else none
-- X4_power
def L4_power_5 (N : Nat) : Nat → Int → Int → Int → Int → mm → Option Int
  | 0, _, _, _, _, _ => none
  | k + 1, x0, x2, x3, x5, μ => if inR x5 ∧ inR x2 then (if x2 ≤ x5 then (some x3) else (bnd (x3 * x0) fun (w2 : Int) => L4_power_5 N k x0 x2 w2 (x5 + 1) μ)) else none
def M4_power (N : Nat) (a0 : Int) (a1 : Int) (μ0 : mm) : Option Int := L4_power_5 N N a0 a1 1 0 μ0
-- X4_leastTerms
def J4_leastTerms_60 (N : Nat) (x0 : Int) (x2 : Int) (x4 : Int) (x5 : Int) (μ : mm) : Option Int := if inL x5 then (if inR (zcmp x5 0) then (if (zcmp x5 0) = 0 then (if inR x4 then (some x4) else none) else (if inR x4 then (if x4 = 0 then (if 0 ≤ x0 ∧ 0 < x5 ∧ inL x0 ∧ inL x5 then (some (x0 / x5)) else none) else (if 0 ≤ x2 ∧ 0 < x5 ∧ inL x2 ∧ inL x5 then (some (x2 / x5)) else none)) else none)) else none) else none
def L4_leastTerms_25 (N : Nat) : Nat → Int → Int → Int → Int → Int → Int → mm → Option Int
  | 0, _, _, _, _, _, _, _ => none
  | k + 1, x0, x2, x4, x5, x7, x9, μ => if inR x9 then (if 100 ≤ x9 then (J4_leastTerms_60 N x0 x2 x4 x5 μ) else (if inL x7 then (if inR (zcmp x7 0) then (if (zcmp x7 0) = 0 then (J4_leastTerms_60 N x0 x2 x4 x5 μ) else (if 0 ≤ x5 ∧ 0 < x7 ∧ inL x5 ∧ inL x7 then (bnd (x5 % x7) fun (w18 : Int) => L4_leastTerms_25 N k x0 x2 x4 x7 w18 (x9 + 1) μ) else none)) else none) else none)) else none
def M4_leastTerms (N : Nat) (a0 : Int) (a1 : Int) (a2 : Int) (μ0 : mm) : Option Int := if inL a0 then (if inR (zcmp a0 0) then (if (zcmp a0 0) = 0 then (if inR a2 then (some a2) else none) else (if inL a1 then (if inR (zcmp a1 0) then (if (zcmp a1 0) = 0 then (if inR a2 then (some a2) else none) else (L4_leastTerms_25 N N a0 a1 a2 a0 a1 0 μ0)) else none) else none)) else none) else none
-- X4_slip
def J4_slip_139 (N : Nat) (rec99 : Int → Int → Int → Int → Int → Int → Int → mm → Option (Int × mm)) (x1 : Int) (x2 : Int) (x3 : Int) (x4 : Int) (x5 : Int) (x9 : Int) (x11 : Int) (μ : mm) : Option (Int × mm) := rec99 x1 x2 x3 x4 x5 x9 (x11 + 1) μ
def L4_slip_99 (N : Nat) : Nat → Int → Int → Int → Int → Int → Int → Int → mm → Option (Int × mm)
  | 0, _, _, _, _, _, _, _, _ => none
  | k + 1, x1, x2, x3, x4, x5, x9, x11, μ => if 0 ≤ x2 ∧ x2 < 32 then (if inR x11 ∧ inR (1 * 2 ^ (x2 : Int).toNat) then (if (1 * 2 ^ (x2 : Int).toNat) ≤ x11 then (if inR x3 then ((M4_power N x3 x2 μ).bind fun (q10 : Int) => (M4_leastTerms N x9 q10 x5 μ).bind fun (q11 : Int) => some (q11, μ)) else none) else ((M4_throughLosing N x1 x2 x11 μ).bind fun (q12 : (Int × mm)) => if inR q12.1 ∧ inR x4 then (if q12.1 < x4 then (J4_slip_139 N (L4_slip_99 N k) x1 x2 x3 x4 x5 x9 x11 q12.2) else (if inR (x3 - 1) then ((M6_bitCount_0f7a4 N x11 q12.2).bind fun (q15 : Int) => (M4_power N (x3 - 1) (x2 - q15) q12.2).bind fun (q16 : Int) => bnd (x9 + q16) fun (w17 : Int) => J4_slip_139 N (L4_slip_99 N k) x1 x2 x3 x4 x5 w17 x11 q12.2) else none)) else none)) else none) else none
def J4_slip_76 (N : Nat) (x1 : Int) (x2 : Int) (x3 : Int) (x4 : Int) (x5 : Int) (x8 : Int) (μ : mm) : Option (Int × mm) := if inR x8 then (if x8 = 0 then (L4_slip_99 N N x1 x2 x3 x4 x5 0 0 μ) else ((M4_refused N x8 μ).bind fun (q20 : (Int × mm)) => if inR q20.1 then (some ((4000000000000000000 - q20.1), q20.2)) else none)) else none
def J4_slip_47 (N : Nat) (x1 : Int) (x2 : Int) (x3 : Int) (x4 : Int) (x5 : Int) (x6 : Int) (y0 : Int) (μ : mm) : Option (Int × mm) := (M4_unknown N x1 μ).bind fun (q3 : Int) => (M4_firstOf N q3 x6 y0 μ).bind fun (q4 : Int) => if inR q4 then (if q4 = 0 then ((M4_other N x5 1 μ).bind fun (q23 : Int) => J4_slip_76 N x1 x2 x3 x4 x5 q23 μ) else (J4_slip_76 N x1 x2 x3 x4 x5 q4 μ)) else none
def J4_slip_41 (N : Nat) (x1 : Int) (x2 : Int) (x3 : Int) (x4 : Int) (x5 : Int) (x6 : Int) (μ : mm) : Option (Int × mm) := J4_slip_47 N x1 x2 x3 x4 x5 x6 (-6) μ
def J4_slip_20 (N : Nat) (x1 : Int) (x2 : Int) (x3 : Int) (x4 : Int) (x5 : Int) (y0 : Int) (μ : mm) : Option (Int × mm) := if inR x2 then (if 7 < x2 then (J4_slip_41 N x1 x2 x3 x4 x5 y0 μ) else (if inR x3 then (if 20 < x3 then (J4_slip_41 N x1 x2 x3 x4 x5 y0 μ) else (if inR x4 then (if x4 ≤ 9 then (J4_slip_47 N x1 x2 x3 x4 x5 y0 0 μ) else (J4_slip_41 N x1 x2 x3 x4 x5 y0 μ)) else none)) else none)) else none
def J4_slip_14 (N : Nat) (x1 : Int) (x2 : Int) (x3 : Int) (x4 : Int) (x5 : Int) (μ : mm) : Option (Int × mm) := J4_slip_20 N x1 x2 x3 x4 x5 (-4) μ
def M4_slip (N : Nat) (a0 : Int) (a1 : Int) (a2 : Int) (a3 : Int) (a4 : Int) (μ : mm) : Option (Int × mm) := if inR a1 then (if a1 < 0 then (J4_slip_14 N a0 a1 a2 a3 a4 μ) else (if inR a3 then (if a3 < 0 then (J4_slip_14 N a0 a1 a2 a3 a4 μ) else (if inR a2 then (if 2 ≤ a2 then (J4_slip_20 N a0 a1 a2 a3 a4 0 μ) else (J4_slip_14 N a0 a1 a2 a3 a4 μ)) else none)) else none)) else none
-- X4_mean
def M4_mean (N : Nat) (a0 : Int) (μ : mm) : Option (Int × mm) := (M4_other N a0 1 μ).bind fun (q1 : Int) => if inR q1 then (if q1 = 0 then ((M1_allHas N 10 μ).bind fun (q3 : Int) => if inR q3 then (if inR (μ 10 2) then ((M4_leastTerms N q3 (μ 10 2) a0 μ).bind fun (q6 : Int) => some (q6, μ)) else none) else none) else ((M4_refused N q1 μ).bind fun (q7 : (Int × mm)) => if inR q7.1 then (some ((4000000000000000000 - q7.1), q7.2)) else none)) else none
-- X4_rowIsOfTrial
def J4_rowIsOfTrial_31 (N : Nat) (rec2 : Int → mm → Option (Int × mm)) (x1 : Int) (μ : mm) : Option (Int × mm) := if 0 ≤ x1 ∧ x1 < 16 then (if inR (μ 43 2) ∧ inR (μ 46 (x1).toNat) then (if (μ 43 2) = (μ 46 (x1).toNat) then (rec2 (x1 + 1) μ) else (some (0, μ))) else none) else none
def L4_rowIsOfTrial_2 (N : Nat) : Nat → Int → mm → Option (Int × mm)
  | 0, _, _ => none
  | k + 1, x1, μ => if inR x1 ∧ inR (μ 9 9) then (if (μ 9 9) ≤ x1 then (some (1, μ)) else (if inR x1 then (if 16 ≤ x1 then (some (1, μ)) else (if inR x1 then (if x1 ≤ 0 then (J4_rowIsOfTrial_31 N (L4_rowIsOfTrial_2 N k) x1 μ) else ((M2_oneDay N 43 μ).bind fun (q7 : (Int × mm)) => J4_rowIsOfTrial_31 N (L4_rowIsOfTrial_2 N k) x1 q7.2)) else none)) else none)) else none
def M4_rowIsOfTrial (N : Nat)  (μ : mm) : Option (Int × mm) := L4_rowIsOfTrial_2 N N 0 μ
-- X4_whatIs
def J4_whatIs_110 (N : Nat) (rec47 : Int → Int → Int → Int → Int → mm → Option (Int × mm)) (x1 : Int) (x2 : Int) (x4 : Int) (x5 : Int) (x6 : Int) (μ : mm) : Option (Int × mm) := rec47 x1 x2 x4 x5 (x6 + 1) μ
def J4_whatIs_94 (N : Nat) (rec47 : Int → Int → Int → Int → Int → mm → Option (Int × mm)) (x1 : Int) (x2 : Int) (x4 : Int) (x5 : Int) (x6 : Int) (μ : mm) : Option (Int × mm) := (M4_rowIsOfTrial N μ).bind fun (q12 : (Int × mm)) => if inR q12.1 then (if q12.1 = 0 then (J4_whatIs_110 N rec47 x1 x2 x4 x5 x6 q12.2) else (if 0 ≤ x6 ∧ x6 < 32 then (bnd (zor x4 (1 * 2 ^ (x6 : Int).toNat)) fun (w15 : Int) => J4_whatIs_110 N rec47 x1 x2 w15 x5 x6 q12.2) else none)) else none
def L4_whatIs_47 (N : Nat) : Nat → Int → Int → Int → Int → Int → mm → Option (Int × mm)
  | 0, _, _, _, _, _, _ => none
  | k + 1, x1, x2, x4, x5, x6, μ => if inR x6 ∧ inR x5 then (if x5 ≤ x6 then (some (x4, μ)) else ((M1_at N 10 x1 μ).bind fun (q7 : Nat) => if kd q7 = 5 then ((M2_takeFrom N 43 q7 μ).bind fun (q9 : mm) => if inR x2 then (if x2 = 0 then (bnd (mu q9 43 0 x6) fun (μ17 : mm) => J4_whatIs_94 N (L4_whatIs_47 N k) x1 x2 x4 x5 x6 μ17) else (bnd (mu q9 43 1 x6) fun (μ11 : mm) => J4_whatIs_94 N (L4_whatIs_47 N k) x1 x2 x4 x5 x6 μ11)) else none) else none)) else none
def J4_whatIs_42 (N : Nat) (x1 : Int) (x2 : Int) (x4 : Int) (y0 : Int) (μ : mm) : Option (Int × mm) := L4_whatIs_47 N N x1 x2 x4 y0 0 μ
def M4_whatIs (N : Nat) (a0 : Int) (a1 : Int) (μ : mm) : Option (Int × mm) := (M4_unknown N a0 μ).bind fun (q1 : Int) => (M4_other N a1 1 μ).bind fun (q2 : Int) => (M4_firstOf N q1 q2 0 μ).bind fun (q3 : Int) => if inR q3 then (if q3 = 0 then (if inR a1 then (if a1 = 0 then ((M0_length_8abf5 N 65 μ).bind fun (q20 : Int) => J4_whatIs_42 N a0 a1 0 q20 μ) else (J4_whatIs_42 N a0 a1 0 10 μ)) else none) else ((M4_refused N q3 μ).bind fun (q22 : (Int × mm)) => some (q22.1, q22.2))) else none
-- X4_row
def J4_row_27 (N : Nat) (x1 : Int) (x2 : Int) (μ : mm) : Option (Int × mm) := if inR x2 then (if x2 = 0 then (if inR (μ 9 9) then (if (μ 9 9) < 0 then (some ((μ 9 9), μ)) else (if inR (μ 9 9) then (if 16 ≤ (μ 9 9) then (some ((μ 9 9), μ)) else (bnd (mu μ 9 9 ((μ 9 9) + 1)) fun (μ6 : mm) => if 0 ≤ (μ 9 9) ∧ (μ 9 9) < 16 then (bnd (mu μ6 46 ((μ 9 9)).toNat x1) fun (μ8 : mm) => some ((μ8 9 9), μ8)) else none)) else none)) else none) else ((M4_refused N x2 μ).bind fun (q11 : (Int × mm)) => some (q11.1, q11.2))) else none
def M4_row (N : Nat) (a0 : Int) (μ : mm) : Option (Int × mm) := (M4_outside N a0 0 99 μ).bind fun (q1 : Int) => if inR q1 then (if q1 = 0 then (if inR (μ 9 9) then (if (μ 9 9) < 16 then (J4_row_27 N a0 q1 μ) else (J4_row_27 N a0 (-6) μ)) else none) else (J4_row_27 N a0 q1 μ)) else none
-- X4_judge
def J4_judge_65 (N : Nat) (x1 : Int) (μ : mm) : Option (Int × mm) := bnd (mu μ 9 9 0) fun (μ2 : mm) => some (x1, μ2)
def J4_judge_59 (N : Nat) (rec5 : Int → Int → mm → Option (Int × mm)) (x1 : Int) (x2 : Int) (μ : mm) : Option (Int × mm) := rec5 x1 (x2 + 1) μ
def J4_judge_57 (N : Nat) (rec5 : Int → Int → mm → Option (Int × mm)) (x2 : Int) (μ : mm) : Option (Int × mm) := J4_judge_59 N rec5 x2 x2 μ
def L4_judge_5 (N : Nat) : Nat → Int → Int → mm → Option (Int × mm)
  | 0, _, _, _ => none
  | k + 1, x1, x2, μ => if inR x2 ∧ inR (μ 9 9) then (if (μ 9 9) ≤ x2 then (J4_judge_65 N x1 μ) else (if inR x2 then (if 16 ≤ x2 then (J4_judge_65 N x1 μ) else (if inR x1 then (if 0 ≤ x1 then (J4_judge_65 N x1 μ) else ((M1_knows N 10 x2 μ).bind fun (q5 : Int) => if inR q5 then (if q5 = 0 then (J4_judge_57 N (L4_judge_5 N k) x2 μ) else ((M1_at N 10 x2 μ).bind fun (q7 : Nat) => if kd q7 = 5 then (if 0 ≤ x2 ∧ x2 < 16 then (if inR (μ q7 3) ∧ inR (μ 46 (x2).toNat) then (if (μ q7 3) = (μ 46 (x2).toNat) then (J4_judge_59 N (L4_judge_5 N k) x1 x2 μ) else (J4_judge_57 N (L4_judge_5 N k) x2 μ)) else none) else none) else none)) else none)) else none)) else none)) else none
def M4_judge (N : Nat)  (μ : mm) : Option (Int × mm) := L4_judge_5 N N (-9) 0 μ
-- X4_clear
def M4_clear (N : Nat)  (μ : mm) : Option (Int × mm) := bnd (μ 9 9) fun (w1 : Int) => bnd (mu μ 9 9 0) fun (μ2 : mm) => some (w1, μ2)
-- X4_lots
def J4_lots_159 (N : Nat) (rec39 : Int → Int → Int → Int → Int → mm → Option (Int × mm)) (x1 : Int) (x3 : Int) (x5 : Int) (x7 : Int) (y0 : Int) (y1 : Int) (μ : mm) : Option (Int × mm) := bnd (y1 + y0) fun (w12 : Int) => rec39 x1 x3 x5 w12 (x7 + 1) μ
def L4_lots_59 (N : Nat) (rec39 : Int → Int → Int → Int → Int → mm → Option (Int × mm)) : Nat → Int → Int → Int → Int → Int → Int → mm → Option (Int × mm)
  | 0, _, _, _, _, _, _, _ => none
  | k + 1, x1, x3, x5, x6, x7, x8, μ => if inR x8 ∧ inR (μ 21 2) then (if (μ 21 2) ≤ x8 then ((M1_daysGoBy N 21 20 μ).bind fun (q8 : mm) => if inR x3 then (if x3 = 0 then ((M1_allThrough N 21 q8).bind fun (q13 : Int) => (M1_allThrough N 10 q8).bind fun (q14 : Int) => J4_lots_159 N rec39 x1 x3 x5 x7 (q13 - q14) x6 q8) else ((M1_allShort N 21 q8).bind fun (q10 : Int) => (M1_allShort N 10 q8).bind fun (q11 : Int) => J4_lots_159 N rec39 x1 x3 x5 x7 (q10 - q11) x6 q8)) else none) else (bnd ((x5 * 1664525) + 1013904223) fun (w16 : Int) => (M1_at N 21 x8 μ).bind fun (q17 : Nat) => if kd q17 = 5 then (if 0 ≤ (w16 % 2147483648) ∧ inR (w16 % 2147483648) then (if 0 ≤ ((w16 % 2147483648) / 256) ∧ inR ((w16 % 2147483648) / 256) then (bnd (mu μ q17 2 (((w16 % 2147483648) / 256) % 30)) fun (μ21 : mm) => L4_lots_59 N rec39 k x1 x3 w16 x6 x7 (x8 + 1) μ21) else none) else none) else none)) else none
def L4_lots_39 (N : Nat) : Nat → Int → Int → Int → Int → Int → mm → Option (Int × mm)
  | 0, _, _, _, _, _, _ => none
  | k + 1, x1, x3, x5, x6, x7, μ => if inR x7 ∧ inR x1 then (if x1 ≤ x7 then (some (x6, μ)) else ((M1_takeFrom N 21 10 μ).bind fun (q6 : mm) => L4_lots_59 N (L4_lots_39 N k) N x1 x3 x5 x6 x7 0 q6)) else none
def M4_lots (N : Nat) (a0 : Int) (a1 : Int) (a2 : Int) (μ : mm) : Option (Int × mm) := (M4_outside N a0 1 20 μ).bind fun (q1 : Int) => (M4_other N a2 1 μ).bind fun (q2 : Int) => (M4_firstOf N q1 q2 0 μ).bind fun (q3 : Int) => if inR q3 then (if q3 = 0 then (L4_lots_39 N N a0 a2 a1 0 0 μ) else ((M4_refused N q3 μ).bind fun (q24 : (Int × mm)) => some (q24.1, q24.2))) else none
-- X4_image
def M4_image (N : Nat)  (μ : mm) : Option (Int × mm) := (M1_takeFrom N 32 10 μ).bind fun (q1 : mm) => bnd (mu q1 9 10 1) fun (μ2 : mm) => some ((μ2 10 5), μ2)
-- X4_on
def M4_on (N : Nat)  (μ : mm) : Option (Int × mm) := if inR (μ 9 10) then (if (μ 9 10) = 0 then ((M4_refused N (-3) μ).bind fun (q3 : (Int × mm)) => some (q3.1, q3.2)) else ((M1_takeFrom N 10 32 μ).bind fun (q2 : mm) => some ((q2 10 5), q2))) else none
-- X4_count
def J4_count_37 (N : Nat) (x1 : Int) (μ : mm) : Option Int := if inR x1 then (if x1 = 0 then (some (μ 10 2)) else (if x1 = 1 then (some (μ 10 5)) else (if x1 = 2 then (some (μ 10 3)) else (if x1 = 3 then (some (μ 10 4)) else (if x1 = 4 then ((M1_allHas N 10 μ).bind fun (q7 : Int) => some q7) else (if x1 = 5 then ((M1_allWithMatter N 10 μ).bind fun (q9 : Int) => some q9) else (if x1 = 6 then (some (μ 9 9)) else (if x1 = 7 then (some (μ 44 1)) else (some (-9)))))))))) else none
def M4_count (N : Nat) (a0 : Int) (μ0 : mm) : Option Int := if inR a0 then (if a0 < 11 then (J4_count_37 N a0 μ0) else (if inR a0 then (if 16 < a0 then (J4_count_37 N a0 μ0) else (bnd (a0 - 10) fun (w14 : Int) => if inR w14 then (if 7 ≤ w14 then (some 0) else (if 0 ≤ w14 ∧ w14 < 7 then (some (μ0 47 (w14).toNat)) else none)) else none)) else none)) else none
-- X5_isIn
def M5_isIn (N : Nat) (a0 : Int) (a1 : Int) (a2 : Int) (μ0 : mm) : Option Int := if inR a0 ∧ inR a1 then (if a0 < a1 then (some 0) else (if inR a0 ∧ inR a2 then (if a2 < a0 then (some 0) else (some 1)) else none)) else none
-- X5_least
def M5_least (N : Nat) (a0 : Int) (a1 : Int) (μ0 : mm) : Option Int := if inR a0 ∧ inR a1 then (if a1 ≤ a0 then (some a1) else (some a0)) else none
-- X5_copies
def L5_copies_2 (N : Nat) : Nat → Nat → Nat → Int → mm → Option mm
  | 0, _, _, _, _ => none
  | k + 1, r0, r1, x2, μ => if inR x2 then (if 52 ≤ x2 then (some μ) else (if 0 ≤ x2 ∧ x2 < 52 then (if 0 ≤ x2 ∧ x2 < 52 then (bnd (mu μ r1 (x2).toNat (μ r0 (x2).toNat)) fun (μ4 : mm) => L5_copies_2 N k r0 r1 (x2 + 1) μ4) else none) else none)) else none
def M5_copies (N : Nat) (a0 : Nat) (a1 : Nat) (μ : mm) : Option mm := L5_copies_2 N N a0 a1 0 μ
-- X5_no
def M5_no (N : Nat) (a0 : Int) (μ : mm) : Option (Int × mm) := if 0 ≤ (-a0) ∧ (-a0) < 7 then (if 0 ≤ (-a0) ∧ (-a0) < 7 then (bnd (mu μ 7 ((-a0)).toNat ((μ 7 ((-a0)).toNat) + 1)) fun (μ3 : mm) => some (a0, μ3)) else none) else none
-- X5_noFar
def M5_noFar (N : Nat) (a0 : Int) (μ : mm) : Option (Int × mm) := (M5_no N a0 μ).bind fun (q1 : (Int × mm)) => some ((1000000000 - q1.1), q1.2)
-- X5_noWide
def M5_noWide (N : Nat) (a0 : Int) (μ : mm) : Option (Int × mm) := (M5_no N a0 μ).bind fun (q1 : (Int × mm)) => if inR q1.1 then (some ((4000000000000000000 - q1.1), q1.2)) else none
-- X5_isOne
def M5_isOne (N : Nat) (a0 : Int) (μ0 : mm) : Option Int := (M5_isIn N a0 0 ((μ0 1 0) - 1) μ0).bind fun (q1 : Int) => if (q1 = 0 ∨ q1 = 1) then (some q1) else none
-- X5_has
def M5_has (N : Nat) (a0 : Int) (a1 : Int) (μ0 : mm) : Option Int := if inR a0 ∧ 0 ≤ a1 ∧ a1 < 32 then (if inR ((a0 / 2 ^ (a1 : Int).toNat) % 2) then (if ((a0 / 2 ^ (a1 : Int).toNat) % 2) = 1 then (some 1) else (some 0)) else none) else none
-- X5_bits
def L5_bits_4 (N : Nat) : Nat → Int → Int → Int → mm → Option Int
  | 0, _, _, _, _ => none
  | k + 1, x0, x1, x2, μ => if inR x2 then (if 8 ≤ x2 then (some x1) else (if inR x0 ∧ 0 ≤ x2 ∧ x2 < 32 then (bnd (x1 + ((x0 / 2 ^ (x2 : Int).toNat) % 2)) fun (w3 : Int) => L5_bits_4 N k x0 w3 (x2 + 1) μ) else none)) else none
def M5_bits (N : Nat) (a0 : Int) (μ0 : mm) : Option Int := L5_bits_4 N N a0 0 0 μ0
-- X5_needs
def M5_needs (N : Nat) (a0 : Nat) (a1 : Int) (μ0 : mm) : Option Int := if 0 ≤ ((4 + (6 * a1)) + 1) ∧ ((4 + (6 * a1)) + 1) < 52 then (bnd (μ0 a0 (((4 + (6 * a1)) + 1)).toNat) fun (w2 : Int) => if 0 ≤ ((4 + (6 * a1)) + 0) ∧ ((4 + (6 * a1)) + 0) < 52 then (if inR (μ0 a0 (((4 + (6 * a1)) + 0)).toNat) then (if (μ0 a0 (((4 + (6 * a1)) + 0)).toNat) = 1 then (some (w2 + 5)) else (if (μ0 a0 (((4 + (6 * a1)) + 0)).toNat) = 2 then (some (2 * (w2 + 1))) else (if (μ0 a0 (((4 + (6 * a1)) + 0)).toNat) = 3 then (if 0 ≤ (w2 + 1) ∧ inR (w2 + 1) then (some ((w2 + 1) / 2)) else none) else (if (μ0 a0 (((4 + (6 * a1)) + 0)).toNat) = 4 then (some (w2 + 15)) else (if (μ0 a0 (((4 + (6 * a1)) + 0)).toNat) = 5 then (some 1) else (some (w2 + 1))))))) else none) else none) else none
-- X5_wears
def M5_wears (N : Nat) (a0 : Nat) (a1 : Int) (μ0 : mm) : Option Int := if 0 ≤ ((4 + (6 * a1)) + 0) ∧ ((4 + (6 * a1)) + 0) < 52 then (if inR (μ0 a0 (((4 + (6 * a1)) + 0)).toNat) then (if (μ0 a0 (((4 + (6 * a1)) + 0)).toNat) = 2 then ((M5_needs N a0 a1 μ0).bind fun (q3 : Int) => some q3) else (if (μ0 a0 (((4 + (6 * a1)) + 0)).toNat) = 3 then (some 1) else (if (μ0 a0 (((4 + (6 * a1)) + 0)).toNat) = 4 then ((M5_needs N a0 a1 μ0).bind fun (q6 : Int) => if 0 ≤ q6 ∧ inR q6 then (some (q6 / 3)) else none) else (if (μ0 a0 (((4 + (6 * a1)) + 0)).toNat) = 5 then (some 0) else ((M5_needs N a0 a1 μ0).bind fun (q10 : Int) => if 0 ≤ q10 ∧ inR q10 then (some (q10 / 2)) else none))))) else none) else none
-- X5_nextBy
def M5_nextBy (N : Nat) (a0 : Int) (μ0 : mm) : Option Int := if inR a0 then (if a0 = 1 then (some 1) else (if a0 = 2 then (some 30) else (if a0 = 3 then (some 7) else (if a0 = 4 then (some 0) else (if a0 = 5 then (some 8) else (some 7)))))) else none
-- X5_lacksIn
def M5_lacksIn (N : Nat) (a0 : Nat) (a1 : Int) (μ0 : mm) : Option Int := (M5_needs N a0 a1 μ0).bind fun (q1 : Int) => if 0 ≤ ((4 + (6 * a1)) + 2) ∧ ((4 + (6 * a1)) + 2) < 52 then (bnd (q1 - (μ0 a0 (((4 + (6 * a1)) + 2)).toNat)) fun (w3 : Int) => if 0 ≤ ((4 + (6 * a1)) + 3) ∧ ((4 + (6 * a1)) + 3) < 52 then (if inR (μ0 a0 (((4 + (6 * a1)) + 3)).toNat) then (if (μ0 a0 (((4 + (6 * a1)) + 3)).toNat) = 0 then (some 0) else (if inR w3 then (if 0 ≤ w3 then (some w3) else (some 0)) else none)) else none) else none) else none
-- X5_isGone
def M5_isGone (N : Nat) (a0 : Nat) (a1 : Int) (μ : mm) : Option mm := (M5_least N 9999 ((μ a0 3) + a1) μ).bind fun (q1 : Int) => bnd (mu μ a0 3 q1) fun (μ2 : mm) => some μ2
-- X5_meets
def J5_meets_88 (N : Nat) (r0 : Nat) (x1 : Int) (μ : mm) : Option mm := if 0 ≤ ((4 + (6 * x1)) + 0) ∧ ((4 + (6 * x1)) + 0) < 52 then ((M5_nextBy N (μ r0 (((4 + (6 * x1)) + 0)).toNat) μ).bind fun (q12 : Int) => if 0 ≤ ((4 + (6 * x1)) + 3) ∧ ((4 + (6 * x1)) + 3) < 52 then (bnd (mu μ r0 (((4 + (6 * x1)) + 3)).toNat q12) fun (μ14 : mm) => some μ14) else none) else none
def J5_meets_31 (N : Nat) (r0 : Nat) (x1 : Int) (x2 : Int) (y0 : Int) (y1 : Int) (μ : mm) : Option mm := bnd ((4 + (6 * y1)) + y0) fun (w5 : Int) => if 0 ≤ w5 ∧ w5 < 52 then ((M5_least N 999 ((μ r0 (w5).toNat) + 1) μ).bind fun (q7 : Int) => if 0 ≤ w5 ∧ w5 < 52 then (bnd (mu μ r0 (w5).toNat q7) fun (μ9 : mm) => if inR x2 then (if x2 = 0 then (J5_meets_88 N r0 x1 μ9) else ((M5_wears N r0 x1 μ9).bind fun (q15 : Int) => if 0 ≤ ((4 + (6 * x1)) + 2) ∧ ((4 + (6 * x1)) + 2) < 52 then ((M5_least N q15 (μ9 r0 (((4 + (6 * x1)) + 2)).toNat) μ9).bind fun (q17 : Int) => if 0 ≤ ((4 + (6 * x1)) + 2) ∧ ((4 + (6 * x1)) + 2) < 52 then (if 0 ≤ ((4 + (6 * x1)) + 2) ∧ ((4 + (6 * x1)) + 2) < 52 then (bnd (mu μ9 r0 (((4 + (6 * x1)) + 2)).toNat ((μ9 r0 (((4 + (6 * x1)) + 2)).toNat) - q17)) fun (μ20 : mm) => (M5_isGone N r0 q17 μ20).bind fun (q21 : mm) => J5_meets_88 N r0 x1 q21) else none) else none) else none)) else none) else none) else none
def J5_meets_20 (N : Nat) (r0 : Nat) (x1 : Int) (y0 : Int) (μ : mm) : Option mm := if inR y0 then (if y0 = 0 then (J5_meets_31 N r0 x1 y0 5 x1 μ) else (J5_meets_31 N r0 x1 y0 4 x1 μ)) else none
def M5_meets (N : Nat) (a0 : Nat) (a1 : Int) (μ : mm) : Option mm := if 0 ≤ ((4 + (6 * a1)) + 2) ∧ ((4 + (6 * a1)) + 2) < 52 then ((M5_needs N a0 a1 μ).bind fun (q2 : Int) => if inR (μ a0 (((4 + (6 * a1)) + 2)).toNat) ∧ inR q2 then (if (μ a0 (((4 + (6 * a1)) + 2)).toNat) < q2 then (J5_meets_20 N a0 a1 0 μ) else (J5_meets_20 N a0 a1 1 μ)) else none) else none
-- X5_day
def J5_day_55 (N : Nat) (rec9 : Nat → Int → mm → Option mm) (r0 : Nat) (x1 : Int) (μ : mm) : Option mm := rec9 r0 (x1 + 1) μ
def L5_day_9 (N : Nat) : Nat → Nat → Int → mm → Option mm
  | 0, _, _, _ => none
  | k + 1, r0, x1, μ => if inR x1 ∧ inR (μ r0 0) then (if (μ r0 0) ≤ x1 then (some μ) else (if 0 ≤ ((4 + (6 * x1)) + 3) ∧ ((4 + (6 * x1)) + 3) < 52 then (if inR (μ r0 (((4 + (6 * x1)) + 3)).toNat) then (if (μ r0 (((4 + (6 * x1)) + 3)).toNat) = 0 then (J5_day_55 N (L5_day_9 N k) r0 x1 μ) else (if 0 ≤ ((4 + (6 * x1)) + 3) ∧ ((4 + (6 * x1)) + 3) < 52 then (if 0 ≤ ((4 + (6 * x1)) + 3) ∧ ((4 + (6 * x1)) + 3) < 52 then (bnd (mu μ r0 (((4 + (6 * x1)) + 3)).toNat ((μ r0 (((4 + (6 * x1)) + 3)).toNat) - 1)) fun (μ7 : mm) => if 0 ≤ ((4 + (6 * x1)) + 3) ∧ ((4 + (6 * x1)) + 3) < 52 then (if inR (μ7 r0 (((4 + (6 * x1)) + 3)).toNat) then (if (μ7 r0 (((4 + (6 * x1)) + 3)).toNat) = 0 then ((M5_meets N r0 x1 μ7).bind fun (q10 : mm) => J5_day_55 N (L5_day_9 N k) r0 x1 q10) else (J5_day_55 N (L5_day_9 N k) r0 x1 μ7)) else none) else none) else none) else none)) else none) else none)) else none
def M5_day (N : Nat) (a0 : Nat) (μ : mm) : Option mm := bnd (mu μ a0 1 ((μ a0 1) + 1)) fun (μ1 : mm) => L5_day_9 N N a0 0 μ1
-- X5_daysOn
def L5_daysOn_2 (N : Nat) : Nat → Nat → Int → Int → mm → Option mm
  | 0, _, _, _, _ => none
  | k + 1, r0, x1, x2, μ => if inR x2 ∧ inR x1 then (if x1 ≤ x2 then (some μ) else ((M5_day N r0 μ).bind fun (q2 : mm) => L5_daysOn_2 N k r0 x1 (x2 + 1) q2)) else none
def M5_daysOn (N : Nat) (a0 : Nat) (a1 : Int) (μ : mm) : Option mm := L5_daysOn_2 N N a0 a1 0 μ
-- X5_allOf
def L5_allOf_4 (N : Nat) : Nat → Nat → Int → Int → Int → mm → Option Int
  | 0, _, _, _, _, _ => none
  | k + 1, r0, x1, x2, x3, μ => if inR x3 ∧ inR (μ r0 0) then (if (μ r0 0) ≤ x3 then (some x2) else (if 0 ≤ ((4 + (6 * x3)) + x1) ∧ ((4 + (6 * x3)) + x1) < 52 then (bnd (x2 + (μ r0 (((4 + (6 * x3)) + x1)).toNat)) fun (w3 : Int) => L5_allOf_4 N k r0 x1 w3 (x3 + 1) μ) else none)) else none
def M5_allOf (N : Nat) (a0 : Nat) (a1 : Int) (μ0 : mm) : Option Int := L5_allOf_4 N N a0 a1 0 0 μ0
-- X5_issuesIn
def M5_issuesIn (N : Nat) (a0 : Nat) (a1 : Int) (a2 : Int) (μ : mm) : Option mm := bnd (mu μ a0 2 ((μ a0 2) - a2)) fun (μ1 : mm) => if 0 ≤ ((4 + (6 * a1)) + 2) ∧ ((4 + (6 * a1)) + 2) < 52 then (if 0 ≤ ((4 + (6 * a1)) + 2) ∧ ((4 + (6 * a1)) + 2) < 52 then (bnd (mu μ1 a0 (((4 + (6 * a1)) + 2)).toNat ((μ1 a0 (((4 + (6 * a1)) + 2)).toNat) + a2)) fun (μ4 : mm) => some μ4) else none) else none
-- X5_handsIn
def M5_handsIn (N : Nat) (a0 : Nat) (a1 : Int) (μ : mm) : Option mm := if 0 ≤ ((4 + (6 * a1)) + 2) ∧ ((4 + (6 * a1)) + 2) < 52 then (bnd ((μ a0 2) + (μ a0 (((4 + (6 * a1)) + 2)).toNat)) fun (w2 : Int) => if 0 ≤ ((4 + (6 * a1)) + 2) ∧ ((4 + (6 * a1)) + 2) < 52 then (bnd (mu μ a0 (((4 + (6 * a1)) + 2)).toNat 0) fun (μ4 : mm) => (M5_least N 999 w2 μ4).bind fun (q5 : Int) => bnd (mu μ4 a0 2 q5) fun (μ6 : mm) => if inR w2 then (if w2 ≤ 999 then (some μ6) else ((M5_isGone N a0 (w2 - 999) μ6).bind fun (q8 : mm) => some q8)) else none) else none) else none
-- X5_throughBehind
def M5_throughBehind (N : Nat) (a0 : Int) (μ : mm) : Option (Int × mm) := (M5_daysOn N 2 a0 μ).bind fun (q1 : mm) => (M5_allOf N 2 4 q1).bind fun (q2 : Int) => (M5_allOf N 1 4 q1).bind fun (q3 : Int) => some ((q2 - q3), q1)
-- X5_letter
def J5_letter_27 (N : Nat) (μ : mm) : Option (Int × mm) := (M5_no N (-6) μ).bind fun (q3 : (Int × mm)) => some (q3.1, q3.2)
def M5_letter (N : Nat) (a0 : Int) (μ : mm) : Option (Int × mm) := if inR a0 then (if 0 ≤ a0 then (if inR a0 then (if 255 < a0 then (J5_letter_27 N μ) else (if inR (μ 0 8) then (if (μ 0 8) = 96 then (J5_letter_27 N μ) else (if 0 ≤ (μ 0 8) ∧ (μ 0 8) < 96 then (bnd (mu μ 5 ((μ 0 8)).toNat a0) fun (μ6 : mm) => bnd (mu μ6 0 8 ((μ6 0 8) + 1)) fun (μ7 : mm) => some ((μ7 0 8), μ7)) else none)) else none)) else none) else ((M5_no N (-4) μ).bind fun (q10 : (Int × mm)) => some (q10.1, q10.2))) else none
-- X5_here
def M5_here (N : Nat)  (μ0 : mm) : Option Int := if inR (μ0 0 10) ∧ inR (μ0 0 8) then (if (μ0 0 8) ≤ (μ0 0 10) then (some (-1)) else (if 0 ≤ (μ0 0 10) ∧ (μ0 0 10) < 96 then (some (μ0 5 ((μ0 0 10)).toNat)) else none)) else none
-- X5_readsNumber
def L5_readsNumber_9 (N : Nat) : Nat → Int → Int → Int → mm → Option (Int × mm)
  | 0, _, _, _, _ => none
  | k + 1, x1, x2, x3, μ => if inR x3 ∧ inR x2 then (if x2 ≤ x3 then (some (1, μ)) else ((M5_here N μ).bind fun (q4 : Int) => (M5_isIn N q4 48 57 μ).bind fun (q5 : Int) => if inR q5 then (if q5 = 0 then (some (0, μ)) else (if 0 ≤ x1 ∧ x1 < 3 then ((M5_here N μ).bind fun (q8 : Int) => if 0 ≤ x1 ∧ x1 < 3 then (bnd (mu μ 8 (x1).toNat (((10 * (μ 8 (x1).toNat)) + q8) - 48)) fun (μ10 : mm) => bnd (mu μ10 0 10 ((μ10 0 10) + 1)) fun (μ11 : mm) => L5_readsNumber_9 N k x1 x2 (x3 + 1) μ11) else none) else none)) else none)) else none
def M5_readsNumber (N : Nat) (a0 : Int) (a1 : Int) (μ : mm) : Option (Int × mm) := if 0 ≤ a0 ∧ a0 < 3 then (bnd (mu μ 8 (a0).toNat 0) fun (μ2 : mm) => L5_readsNumber_9 N N a0 a1 0 μ2) else none
-- X5_kindBy
def M5_kindBy (N : Nat) (a0 : Int) (μ0 : mm) : Option Int := if inR a0 then (if a0 = 99 then (some 0) else (if a0 = 100 then (some 4) else (if a0 = 101 then (some (-9)) else (if a0 = 102 then (some (-9)) else (if a0 = 103 then (some 5) else (if a0 = 104 then (some 2) else (if a0 = 105 then (some (-9)) else (if a0 = 106 then (some (-9)) else (if a0 = 107 then (some (-9)) else (if a0 = 108 then (some (-9)) else (if a0 = 109 then (some 1) else (if a0 = 110 then (some (-9)) else (if a0 = 111 then (some (-9)) else (if a0 = 112 then (some (-9)) else (if a0 = 113 then (some (-9)) else (if a0 = 114 then (some (-9)) else (if a0 = 115 then (some (-9)) else (if a0 = 116 then (some 3) else (some (-9)))))))))))))))))))) else none
-- X5_readsKind
def J5_readsKind_32 (N : Nat) (y0 : Int) (y1 : Int) (μ : mm) : Option (Int × mm) := bnd (mu μ 0 10 (y1 + y0)) fun (μ5 : mm) => if inR (μ5 8 0) then (if (μ5 8 0) < 0 then (some (0, μ5)) else (some (1, μ5))) else none
def M5_readsKind (N : Nat)  (μ : mm) : Option (Int × mm) := (M5_here N μ).bind fun (q1 : Int) => (M5_kindBy N q1 μ).bind fun (q2 : Int) => bnd (mu μ 8 0 q2) fun (μ3 : mm) => if inR (μ3 8 0) then (if 0 ≤ (μ3 8 0) then (J5_readsKind_32 N 1 (μ3 0 10) μ3) else (J5_readsKind_32 N 0 (μ3 0 10) μ3)) else none
-- X5_readsStatement
def J5_readsStatement_207 (N : Nat) (x2 : Int) (μ : mm) : Option (Int × mm) := if inR x2 then (if x2 = 0 then (some (0, μ)) else ((M5_here N μ).bind fun (q6 : Int) => if inR q6 then (if q6 = 59 then (bnd (mu μ 0 10 ((μ 0 10) + 1)) fun (μ8 : mm) => some (1, μ8)) else (some (0, μ))) else none)) else none
def J5_readsStatement_161 (N : Nat) (y0 : Int) (μ : mm) : Option (Int × mm) := J5_readsStatement_207 N y0 μ
def J5_readsStatement_160 (N : Nat) (μ : mm) : Option (Int × mm) := J5_readsStatement_161 N 0 μ
def J5_readsStatement_134 (N : Nat) (y0 : Int) (μ : mm) : Option (Int × mm) := J5_readsStatement_207 N y0 μ
def J5_readsStatement_133 (N : Nat) (μ : mm) : Option (Int × mm) := J5_readsStatement_134 N 0 μ
def M5_readsStatement (N : Nat)  (μ : mm) : Option (Int × mm) := (M5_here N μ).bind fun (q1 : Int) => bnd (mu μ 0 10 ((μ 0 10) + 1)) fun (μ2 : mm) => if inR q1 then (if q1 = 100 then ((M5_readsNumber N 0 2 μ2).bind fun (q4 : (Int × mm)) => J5_readsStatement_207 N q4.1 q4.2) else (if q1 = 101 then (bnd (mu μ2 0 10 ((μ2 0 10) - 1)) fun (μ12 : mm) => some (0, μ12)) else (if q1 = 102 then (bnd (mu μ2 0 10 ((μ2 0 10) - 1)) fun (μ14 : mm) => some (0, μ14)) else (if q1 = 103 then ((M5_readsNumber N 0 3 μ2).bind fun (q16 : (Int × mm)) => J5_readsStatement_207 N q16.1 q16.2) else (if q1 = 104 then (bnd (mu μ2 0 10 ((μ2 0 10) - 1)) fun (μ18 : mm) => some (0, μ18)) else (if q1 = 105 then ((M5_readsNumber N 0 1 μ2).bind fun (q20 : (Int × mm)) => if inR q20.1 then (if q20.1 = 0 then (J5_readsStatement_160 N q20.2) else ((M5_readsNumber N 1 2 q20.2).bind fun (q22 : (Int × mm)) => if inR q22.1 then (if q22.1 = 0 then (J5_readsStatement_160 N q22.2) else (J5_readsStatement_161 N 1 q22.2)) else none)) else none) else (if q1 = 106 then (bnd (mu μ2 0 10 ((μ2 0 10) - 1)) fun (μ27 : mm) => some (0, μ27)) else (if q1 = 107 then (bnd (mu μ2 0 10 ((μ2 0 10) - 1)) fun (μ29 : mm) => some (0, μ29)) else (if q1 = 108 then (bnd (mu μ2 0 10 ((μ2 0 10) - 1)) fun (μ31 : mm) => some (0, μ31)) else (if q1 = 109 then (bnd (mu μ2 0 10 ((μ2 0 10) - 1)) fun (μ33 : mm) => some (0, μ33)) else (if q1 = 110 then (bnd (mu μ2 0 10 ((μ2 0 10) - 1)) fun (μ35 : mm) => some (0, μ35)) else (if q1 = 111 then (bnd (mu μ2 0 10 ((μ2 0 10) - 1)) fun (μ37 : mm) => some (0, μ37)) else (if q1 = 112 then ((M5_readsKind N μ2).bind fun (q39 : (Int × mm)) => if inR q39.1 then (if q39.1 = 0 then (J5_readsStatement_133 N q39.2) else ((M5_readsNumber N 1 1 q39.2).bind fun (q41 : (Int × mm)) => if inR q41.1 then (if q41.1 = 0 then (J5_readsStatement_133 N q41.2) else ((M5_readsNumber N 2 2 q41.2).bind fun (q43 : (Int × mm)) => if inR q43.1 then (if q43.1 = 0 then (J5_readsStatement_133 N q43.2) else (J5_readsStatement_134 N 1 q43.2)) else none)) else none)) else none) else (if q1 = 113 then (bnd (mu μ2 0 10 ((μ2 0 10) - 1)) fun (μ49 : mm) => some (0, μ49)) else (if q1 = 114 then ((M5_readsNumber N 0 1 μ2).bind fun (q51 : (Int × mm)) => J5_readsStatement_207 N q51.1 q51.2) else (if q1 = 115 then (bnd (mu μ2 0 10 ((μ2 0 10) - 1)) fun (μ53 : mm) => some (0, μ53)) else (if q1 = 116 then (bnd (mu μ2 0 10 ((μ2 0 10) - 1)) fun (μ55 : mm) => some (0, μ55)) else (if q1 = 117 then ((M5_readsNumber N 0 1 μ2).bind fun (q57 : (Int × mm)) => if inR q57.1 then (if q57.1 = 0 then (J5_readsStatement_160 N q57.2) else ((M5_readsNumber N 1 2 q57.2).bind fun (q59 : (Int × mm)) => if inR q59.1 then (if q59.1 = 0 then (J5_readsStatement_160 N q59.2) else (J5_readsStatement_161 N 1 q59.2)) else none)) else none) else (bnd (mu μ2 0 10 ((μ2 0 10) - 1)) fun (μ64 : mm) => some (0, μ64)))))))))))))))))))) else none
-- X5_adds
def L5_adds_30 (N : Nat) : Nat → Int → Int → Int → Int → Int → mm → Option (Int × mm)
  | 0, _, _, _, _, _, _ => none
  | k + 1, x1, x2, x3, x4, x5, μ => if inR x5 then (if 6 ≤ x5 then (if 0 ≤ ((4 + (6 * x4)) + 0) ∧ ((4 + (6 * x4)) + 0) < 52 then (bnd (mu μ 1 (((4 + (6 * x4)) + 0)).toNat x1) fun (μ6 : mm) => if 0 ≤ ((4 + (6 * x4)) + 1) ∧ ((4 + (6 * x4)) + 1) < 52 then (bnd (mu μ6 1 (((4 + (6 * x4)) + 1)).toNat x2) fun (μ8 : mm) => if 0 ≤ ((4 + (6 * x4)) + 3) ∧ ((4 + (6 * x4)) + 3) < 52 then (bnd (mu μ8 1 (((4 + (6 * x4)) + 3)).toNat x3) fun (μ10 : mm) => bnd (mu μ10 1 0 ((μ10 1 0) + 1)) fun (μ11 : mm) => some (1, μ11)) else none) else none) else none) else (if 0 ≤ ((4 + (6 * x4)) + x5) ∧ ((4 + (6 * x4)) + x5) < 52 then (bnd (mu μ 1 (((4 + (6 * x4)) + x5)).toNat 0) fun (μ13 : mm) => L5_adds_30 N k x1 x2 x3 x4 (x5 + 1) μ13) else none)) else none
def M5_adds (N : Nat) (a0 : Int) (a1 : Int) (a2 : Int) (μ : mm) : Option (Int × mm) := if inR a2 then (if 60 < a2 then (some (0, μ)) else (if inR (μ 1 0) then (if (μ 1 0) = 8 then (some (0, μ)) else (bnd (μ 1 0) fun (w3 : Int) => L5_adds_30 N N a0 a1 a2 w3 0 μ)) else none)) else none
-- X5_isDone
def M5_isDone (N : Nat) (a0 : Int) (μ : mm) : Option (Int × mm) := bnd (μ 8 0) fun (w1 : Int) => bnd (μ 8 1) fun (w2 : Int) => if inR a0 then (if a0 = 103 then (if inR ((μ 1 2) + w1) then (if ((μ 1 2) + w1) ≤ 999 then (bnd (mu μ 1 2 ((μ 1 2) + w1)) fun (μ5 : mm) => some (1, μ5)) else (some (0, μ))) else none) else (if a0 = 104 then ((M5_isIn N w1 1 60 μ).bind fun (q8 : Int) => if inR q8 then (if q8 = 0 then (some (0, μ)) else (if inR ((μ 1 1) + w1) then (if ((μ 1 1) + w1) ≤ 999 then ((M5_daysOn N 1 w1 μ).bind fun (q11 : mm) => some (1, q11)) else (some (0, μ))) else none)) else none) else (if a0 = 105 then ((M5_isOne N w1 μ).bind fun (q15 : Int) => if inR q15 then (if q15 = 0 then (some (0, μ)) else (if inR w2 ∧ inR (μ 1 2) then (if (μ 1 2) < w2 then (some (0, μ)) else (if 0 ≤ ((4 + (6 * w1)) + 2) ∧ ((4 + (6 * w1)) + 2) < 52 then (if inR ((μ 1 (((4 + (6 * w1)) + 2)).toNat) + w2) then (if ((μ 1 (((4 + (6 * w1)) + 2)).toNat) + w2) ≤ 99 then ((M5_issuesIn N 1 w1 w2 μ).bind fun (q20 : mm) => some (1, q20)) else (some (0, μ))) else none) else none)) else none)) else none) else (if a0 = 106 then ((M5_isIn N w1 1 60 μ).bind fun (q25 : Int) => if inR q25 then (if q25 = 0 then (some (0, μ)) else (if inR ((μ 1 1) + w1) then (if ((μ 1 1) + w1) ≤ 999 then ((M5_daysOn N 1 w1 μ).bind fun (q28 : mm) => some (1, q28)) else (some (0, μ))) else none)) else none) else (if a0 = 107 then ((M5_isIn N w1 1 60 μ).bind fun (q32 : Int) => if inR q32 then (if q32 = 0 then (some (0, μ)) else (if inR ((μ 1 1) + w1) then (if ((μ 1 1) + w1) ≤ 999 then ((M5_daysOn N 1 w1 μ).bind fun (q35 : mm) => some (1, q35)) else (some (0, μ))) else none)) else none) else (if a0 = 108 then ((M5_isIn N w1 1 60 μ).bind fun (q39 : Int) => if inR q39 then (if q39 = 0 then (some (0, μ)) else (if inR ((μ 1 1) + w1) then (if ((μ 1 1) + w1) ≤ 999 then ((M5_daysOn N 1 w1 μ).bind fun (q42 : mm) => some (1, q42)) else (some (0, μ))) else none)) else none) else (if a0 = 109 then ((M5_isIn N w1 1 60 μ).bind fun (q46 : Int) => if inR q46 then (if q46 = 0 then (some (0, μ)) else (if inR ((μ 1 1) + w1) then (if ((μ 1 1) + w1) ≤ 999 then ((M5_daysOn N 1 w1 μ).bind fun (q49 : mm) => some (1, q49)) else (some (0, μ))) else none)) else none) else (if a0 = 110 then ((M5_isIn N w1 1 60 μ).bind fun (q53 : Int) => if inR q53 then (if q53 = 0 then (some (0, μ)) else (if inR ((μ 1 1) + w1) then (if ((μ 1 1) + w1) ≤ 999 then ((M5_daysOn N 1 w1 μ).bind fun (q56 : mm) => some (1, q56)) else (some (0, μ))) else none)) else none) else (if a0 = 111 then ((M5_isIn N w1 1 60 μ).bind fun (q60 : Int) => if inR q60 then (if q60 = 0 then (some (0, μ)) else (if inR ((μ 1 1) + w1) then (if ((μ 1 1) + w1) ≤ 999 then ((M5_daysOn N 1 w1 μ).bind fun (q63 : mm) => some (1, q63)) else (some (0, μ))) else none)) else none) else (if a0 = 112 then ((M5_adds N w1 w2 (μ 8 2) μ).bind fun (q67 : (Int × mm)) => if (q67.1 = 0 ∨ q67.1 = 1) then (some (q67.1, q67.2)) else none) else (if a0 = 113 then ((M5_isIn N w1 1 60 μ).bind fun (q70 : Int) => if inR q70 then (if q70 = 0 then (some (0, μ)) else (if inR ((μ 1 1) + w1) then (if ((μ 1 1) + w1) ≤ 999 then ((M5_daysOn N 1 w1 μ).bind fun (q73 : mm) => some (1, q73)) else (some (0, μ))) else none)) else none) else (if a0 = 114 then ((M5_isOne N w1 μ).bind fun (q77 : Int) => if inR q77 then (if q77 = 0 then (some (0, μ)) else ((M5_handsIn N 1 w1 μ).bind fun (q79 : mm) => some (1, q79))) else none) else (if a0 = 115 then ((M5_isIn N w1 1 60 μ).bind fun (q82 : Int) => if inR q82 then (if q82 = 0 then (some (0, μ)) else (if inR ((μ 1 1) + w1) then (if ((μ 1 1) + w1) ≤ 999 then ((M5_daysOn N 1 w1 μ).bind fun (q85 : mm) => some (1, q85)) else (some (0, μ))) else none)) else none) else (if a0 = 116 then ((M5_isIn N w1 1 60 μ).bind fun (q89 : Int) => if inR q89 then (if q89 = 0 then (some (0, μ)) else (if inR ((μ 1 1) + w1) then (if ((μ 1 1) + w1) ≤ 999 then ((M5_daysOn N 1 w1 μ).bind fun (q92 : mm) => some (1, q92)) else (some (0, μ))) else none)) else none) else (if a0 = 117 then ((M5_isOne N w1 μ).bind fun (q96 : Int) => if inR q96 then (if q96 = 0 then (some (0, μ)) else (if inR w2 then (if w2 ≤ 60 then (if 0 ≤ ((4 + (6 * w1)) + 3) ∧ ((4 + (6 * w1)) + 3) < 52 then (bnd (mu μ 1 (((4 + (6 * w1)) + 3)).toNat w2) fun (μ100 : mm) => some (1, μ100)) else none) else (some (0, μ))) else none)) else none) else ((M5_isIn N w1 1 60 μ).bind fun (q104 : Int) => if inR q104 then (if q104 = 0 then (some (0, μ)) else (if inR ((μ 1 1) + w1) then (if ((μ 1 1) + w1) ≤ 999 then ((M5_daysOn N 1 w1 μ).bind fun (q107 : mm) => some (1, q107)) else (some (0, μ))) else none)) else none)))))))))))))))) else none
-- X5_counter
def J5_counter_128 (N : Nat) (x1 : Int) (x2 : Int) (μ : mm) : Option (Int × mm) := bnd (mu μ 0 8 0) fun (μ8 : mm) => if inR x2 then (if x2 = (-9) then (some (x1, μ8)) else (some (x2, μ8))) else none
def L5_counter_62 (N : Nat) : Nat → Int → Int → mm → Option (Int × mm)
  | 0, _, _, _ => none
  | k + 1, x1, x2, μ => if inR x2 then (if x2 = (-9) then (if inR (μ 0 10) ∧ inR (μ 0 8) then (if (μ 0 8) ≤ (μ 0 10) then (J5_counter_128 N x1 x2 μ) else (bnd (μ 0 10) fun (w12 : Int) => (M5_here N μ).bind fun (q13 : Int) => (M5_readsStatement N μ).bind fun (q14 : (Int × mm)) => (M5_isDone N q13 q14.2).bind fun (q15 : (Int × mm)) => if inR q15.1 then (if q15.1 = 0 then (bnd ((-2000) - w12) fun (w17 : Int) => (M5_copies N 4 1 q15.2).bind fun (q18 : mm) => L5_counter_62 N k x1 w17 q18) else (L5_counter_62 N k x1 x2 q15.2)) else none)) else none) else (J5_counter_128 N x1 x2 μ)) else none
def J5_counter_46 (N : Nat) (x1 : Int) (x2 : Int) (μ : mm) : Option (Int × mm) := (M5_copies N 1 4 μ).bind fun (q5 : mm) => bnd (mu q5 0 10 0) fun (μ6 : mm) => L5_counter_62 N N x1 x2 μ6
def J5_counter_26 (N : Nat) (rec10 : Int → Int → mm → Option (Int × mm)) (x1 : Int) (x2 : Int) (μ : mm) : Option (Int × mm) := if inR x2 then (if x2 = (-9) then (if inR (μ 0 10) ∧ inR (μ 0 8) then (if (μ 0 10) < (μ 0 8) then (rec10 (x1 + 1) x2 μ) else (J5_counter_46 N (x1 + 1) x2 μ)) else none) else (J5_counter_46 N (x1 + 1) x2 μ)) else none
def L5_counter_10 (N : Nat) : Nat → Int → Int → mm → Option (Int × mm)
  | 0, _, _, _ => none
  | k + 1, x1, x2, μ => (M5_readsStatement N μ).bind fun (q2 : (Int × mm)) => if inR q2.1 then (if q2.1 = 0 then (bnd ((-1000) - (q2.2 0 10)) fun (w25 : Int) => J5_counter_26 N (L5_counter_10 N k) x1 w25 q2.2) else (J5_counter_26 N (L5_counter_10 N k) x1 x2 q2.2)) else none
def M5_counter (N : Nat)  (μ : mm) : Option (Int × mm) := bnd (mu μ 0 10 0) fun (μ1 : mm) => L5_counter_10 N N 0 (-9) μ1
-- X5_person
def M5_person (N : Nat) (a0 : Int) (a1 : Int) (μ : mm) : Option (Int × mm) := (M5_isOne N a0 μ).bind fun (q1 : Int) => if inR q1 then (if q1 = 0 then ((M5_no N (-1) μ).bind fun (q14 : (Int × mm)) => some (q14.1, q14.2)) else ((M5_isIn N a1 0 5 μ).bind fun (q3 : Int) => if inR q3 then (if q3 = 0 then (if inR a1 then (if a1 = 6 then ((M5_needs N 1 a0 μ).bind fun (q10 : Int) => some (q10, μ)) else (if inR a1 then (if a1 = 7 then ((M5_lacksIn N 1 a0 μ).bind fun (q8 : Int) => some (q8, μ)) else ((M5_no N (-2) μ).bind fun (q7 : (Int × mm)) => some (q7.1, q7.2))) else none)) else none) else (if 0 ≤ ((4 + (6 * a0)) + a1) ∧ ((4 + (6 * a0)) + a1) < 52 then (some ((μ 1 (((4 + (6 * a0)) + a1)).toNat), μ)) else none)) else none)) else none
-- X5_wrongBy
def M5_wrongBy (N : Nat) (a0 : Int) (a1 : Int) (a2 : Int) (μ0 : mm) : Option Int := if inR a0 ∧ inR a1 then (if a1 ≤ a0 then (if inR a0 ∧ inR a2 then (if a0 ≤ a2 then (some 0) else (some (-6))) else none) else (some (-4))) else none
-- X5_issues
def J5_issues_54 (N : Nat) (x1 : Int) (x2 : Int) (x3 : Int) (μ : mm) : Option (Int × mm) := if inR x3 then (if x3 = 0 then ((M5_issuesIn N 1 x1 x2 μ).bind fun (q5 : mm) => some ((q5 1 2), q5)) else ((M5_no N x3 μ).bind fun (q6 : (Int × mm)) => some (q6.1, q6.2))) else none
def J5_issues_51 (N : Nat) (x1 : Int) (x2 : Int) (μ : mm) : Option (Int × mm) := J5_issues_54 N x1 x2 (-3) μ
def J5_issues_19 (N : Nat) (x1 : Int) (x2 : Int) (y0 : Int) (μ : mm) : Option (Int × mm) := if inR y0 then (if y0 = 0 then (if inR x2 ∧ inR (μ 1 2) then (if (μ 1 2) < x2 then (J5_issues_51 N x1 x2 μ) else (if 0 ≤ ((4 + (6 * x1)) + 2) ∧ ((4 + (6 * x1)) + 2) < 52 then (if inR ((μ 1 (((4 + (6 * x1)) + 2)).toNat) + x2) then (if ((μ 1 (((4 + (6 * x1)) + 2)).toNat) + x2) ≤ 99 then (J5_issues_54 N x1 x2 y0 μ) else (J5_issues_51 N x1 x2 μ)) else none) else none)) else none) else (J5_issues_54 N x1 x2 y0 μ)) else none
def M5_issues (N : Nat) (a0 : Int) (a1 : Int) (μ : mm) : Option (Int × mm) := (M5_isOne N a0 μ).bind fun (q1 : Int) => if inR q1 then (if q1 = 0 then (J5_issues_19 N a0 a1 (-1) μ) else ((M5_wrongBy N a1 0 99 μ).bind fun (q14 : Int) => J5_issues_19 N a0 a1 q14 μ)) else none
-- X5_returns
def M5_returns (N : Nat) (a0 : Int) (μ : mm) : Option (Int × mm) := (M5_isOne N a0 μ).bind fun (q1 : Int) => if inR q1 then (if q1 = 0 then ((M5_no N (-1) μ).bind fun (q8 : (Int × mm)) => some (q8.1, q8.2)) else (if 0 ≤ ((4 + (6 * a0)) + 2) ∧ ((4 + (6 * a0)) + 2) < 52 then (if inR (μ 1 (((4 + (6 * a0)) + 2)).toNat) then (if (μ 1 (((4 + (6 * a0)) + 2)).toNat) = 0 then ((M5_no N (-3) μ).bind fun (q6 : (Int × mm)) => some (q6.1, q6.2)) else ((M5_handsIn N 1 a0 μ).bind fun (q5 : mm) => some ((q5 1 2), q5))) else none) else none)) else none
-- X5_due
def J5_due_19 (N : Nat) (x1 : Int) (x2 : Int) (y0 : Int) (μ : mm) : Option (Int × mm) := if inR y0 then (if y0 = 0 then (if 0 ≤ ((4 + (6 * x1)) + 3) ∧ ((4 + (6 * x1)) + 3) < 52 then (bnd (μ 1 (((4 + (6 * x1)) + 3)).toNat) fun (w5 : Int) => if 0 ≤ ((4 + (6 * x1)) + 3) ∧ ((4 + (6 * x1)) + 3) < 52 then (bnd (mu μ 1 (((4 + (6 * x1)) + 3)).toNat x2) fun (μ7 : mm) => some (w5, μ7)) else none) else none) else ((M5_no N y0 μ).bind fun (q8 : (Int × mm)) => some (q8.1, q8.2))) else none
def M5_due (N : Nat) (a0 : Int) (a1 : Int) (μ : mm) : Option (Int × mm) := (M5_isOne N a0 μ).bind fun (q1 : Int) => if inR q1 then (if q1 = 0 then (J5_due_19 N a0 a1 (-1) μ) else ((M5_wrongBy N a1 0 60 μ).bind fun (q10 : Int) => J5_due_19 N a0 a1 q10 μ)) else none
-- X5_fills
def J5_fills_29 (N : Nat) (x1 : Int) (x2 : Int) (μ : mm) : Option (Int × mm) := if inR x2 then (if x2 = 0 then (bnd (mu μ 1 2 ((μ 1 2) + x1)) fun (μ4 : mm) => some ((μ4 1 2), μ4)) else ((M5_no N x2 μ).bind fun (q5 : (Int × mm)) => some (q5.1, q5.2))) else none
def M5_fills (N : Nat) (a0 : Int) (μ : mm) : Option (Int × mm) := (M5_wrongBy N a0 0 99 μ).bind fun (q1 : Int) => if inR q1 then (if q1 = 0 then (if inR ((μ 1 2) + a0) then (if ((μ 1 2) + a0) ≤ 999 then (J5_fills_29 N a0 q1 μ) else (J5_fills_29 N a0 (-6) μ)) else none) else (J5_fills_29 N a0 q1 μ)) else none
-- X5_turn
def J5_turn_33 (N : Nat) (x1 : Int) (x2 : Int) (x3 : Int) (y0 : Int) (μ : mm) : Option (Int × mm) := if inR y0 then (if y0 = 0 then (if 0 ≤ ((4 + (6 * x1)) + 0) ∧ ((4 + (6 * x1)) + 0) < 52 then (if 0 ≤ ((4 + (6 * x1)) + 1) ∧ ((4 + (6 * x1)) + 1) < 52 then (bnd ((10 * (μ 1 (((4 + (6 * x1)) + 0)).toNat)) + (μ 1 (((4 + (6 * x1)) + 1)).toNat)) fun (w9 : Int) => if 0 ≤ ((4 + (6 * x1)) + 0) ∧ ((4 + (6 * x1)) + 0) < 52 then (bnd (mu μ 1 (((4 + (6 * x1)) + 0)).toNat x2) fun (μ11 : mm) => if 0 ≤ ((4 + (6 * x1)) + 1) ∧ ((4 + (6 * x1)) + 1) < 52 then (bnd (mu μ11 1 (((4 + (6 * x1)) + 1)).toNat x3) fun (μ13 : mm) => some (w9, μ13)) else none) else none) else none) else none) else ((M5_no N y0 μ).bind fun (q14 : (Int × mm)) => some (q14.1, q14.2))) else none
def M5_turn (N : Nat) (a0 : Int) (a1 : Int) (a2 : Int) (μ : mm) : Option (Int × mm) := (M5_isOne N a0 μ).bind fun (q1 : Int) => if inR q1 then (if q1 = 0 then (J5_turn_33 N a0 a1 a2 (-1) μ) else ((M5_isIn N a1 0 5 μ).bind fun (q3 : Int) => if inR q3 then (if q3 = 0 then (J5_turn_33 N a0 a1 a2 (-2) μ) else ((M5_wrongBy N a2 0 9 μ).bind fun (q5 : Int) => J5_turn_33 N a0 a1 a2 q5 μ)) else none)) else none
-- X5_days
def J5_days_32 (N : Nat) (μ : mm) : Option (Int × mm) := (M5_no N (-6) μ).bind fun (q3 : (Int × mm)) => some (q3.1, q3.2)
def M5_days (N : Nat) (a0 : Int) (μ : mm) : Option (Int × mm) := if inR a0 then (if 1 ≤ a0 then (if inR a0 then (if 60 < a0 then (J5_days_32 N μ) else (if inR ((μ 1 1) + a0) then (if ((μ 1 1) + a0) ≤ 999 then ((M5_allOf N 1 4 μ).bind fun (q5 : Int) => (M5_daysOn N 1 a0 μ).bind fun (q6 : mm) => (M5_allOf N 1 4 q6).bind fun (q7 : Int) => some ((q7 - q5), q6)) else (J5_days_32 N μ)) else none)) else none) else ((M5_no N (-4) μ).bind fun (q10 : (Int × mm)) => some (q10.1, q10.2))) else none
-- X5_takes
def M5_takes (N : Nat) (a0 : Int) (μ : mm) : Option mm := (M5_copies N 1 2 μ).bind fun (q1 : mm) => (M5_daysOn N 2 a0 q1).bind fun (q2 : mm) => some q2
-- X5_personThen
def J5_personThen_39 (N : Nat) (x1 : Int) (x2 : Int) (x3 : Int) (x4 : Int) (μ : mm) : Option (Int × mm) := if inR x4 then (if x4 = 0 then ((M5_takes N x2 μ).bind fun (q5 : mm) => if inR x3 then (if 4 ≤ x3 then (if 0 ≤ ((4 + (6 * x1)) + 5) ∧ ((4 + (6 * x1)) + 5) < 52 then (if 0 ≤ ((4 + (6 * x1)) + 5) ∧ ((4 + (6 * x1)) + 5) < 52 then (if inR (q5 2 (((4 + (6 * x1)) + 5)).toNat) ∧ inR (q5 1 (((4 + (6 * x1)) + 5)).toNat) then (if (q5 2 (((4 + (6 * x1)) + 5)).toNat) ≤ (q5 1 (((4 + (6 * x1)) + 5)).toNat) then (some (0, q5)) else (some (1, q5))) else none) else none) else none) else (if 0 ≤ ((4 + (6 * x1)) + (2 + x3)) ∧ ((4 + (6 * x1)) + (2 + x3)) < 52 then (some ((q5 2 (((4 + (6 * x1)) + (2 + x3))).toNat), q5)) else none)) else none) else ((M5_no N x4 μ).bind fun (q13 : (Int × mm)) => some (q13.1, q13.2))) else none
def J5_personThen_19 (N : Nat) (x1 : Int) (x2 : Int) (x3 : Int) (y0 : Int) (μ : mm) : Option (Int × mm) := if inR y0 then (if y0 = 0 then ((M5_isIn N x3 0 4 μ).bind fun (q15 : Int) => if inR q15 then (if q15 = 0 then (J5_personThen_39 N x1 x2 x3 (-2) μ) else (J5_personThen_39 N x1 x2 x3 y0 μ)) else none) else (J5_personThen_39 N x1 x2 x3 y0 μ)) else none
def M5_personThen (N : Nat) (a0 : Int) (a1 : Int) (a2 : Int) (μ : mm) : Option (Int × mm) := (M5_isOne N a0 μ).bind fun (q1 : Int) => if inR q1 then (if q1 = 0 then (J5_personThen_19 N a0 a1 a2 (-1) μ) else ((M5_wrongBy N a1 0 99 μ).bind fun (q19 : Int) => J5_personThen_19 N a0 a1 a2 q19 μ)) else none
-- X5_allThen
def J5_allThen_24 (N : Nat) (x1 : Int) (x2 : Int) (x3 : Int) (μ : mm) : Option (Int × mm) := if inR x3 then (if x3 = 0 then ((M5_takes N x1 μ).bind fun (q4 : mm) => if inR x2 then (if x2 = 0 then ((M5_allOf N 2 4 q4).bind fun (q9 : Int) => some (q9, q4)) else (if inR x2 then (if x2 = 1 then ((M5_allOf N 2 5 q4).bind fun (q7 : Int) => some (q7, q4)) else (some ((q4 2 3), q4))) else none)) else none) else ((M5_no N x3 μ).bind fun (q11 : (Int × mm)) => some (q11.1, q11.2))) else none
def M5_allThen (N : Nat) (a0 : Int) (a1 : Int) (μ : mm) : Option (Int × mm) := (M5_wrongBy N a0 0 99 μ).bind fun (q1 : Int) => if inR q1 then (if q1 = 0 then ((M5_isIn N a1 0 2 μ).bind fun (q13 : Int) => if inR q13 then (if q13 = 0 then (J5_allThen_24 N a0 a1 (-2) μ) else (J5_allThen_24 N a0 a1 q1 μ)) else none) else (J5_allThen_24 N a0 a1 q1 μ)) else none
-- X5_isShortOn
def M5_isShortOn (N : Nat) (a0 : Int) (μ0 : mm) : Option Int := if 0 ≤ ((4 + (6 * a0)) + 3) ∧ ((4 + (6 * a0)) + 3) < 52 then (if inR (μ0 4 (((4 + (6 * a0)) + 3)).toNat) then (if (μ0 4 (((4 + (6 * a0)) + 3)).toNat) = 1 then (if 0 ≤ ((4 + (6 * a0)) + 2) ∧ ((4 + (6 * a0)) + 2) < 52 then ((M5_needs N 4 a0 μ0).bind fun (q4 : Int) => if inR (μ0 4 (((4 + (6 * a0)) + 2)).toNat) ∧ inR q4 then (if q4 ≤ (μ0 4 (((4 + (6 * a0)) + 2)).toNat) then (some 0) else (some 1)) else none) else none) else (some 0)) else none) else none
-- X5_first
def L5_first_55 (N : Nat) (rec29 : Int → Int → mm → Option (Int × mm)) : Nat → Int → Int → Int → mm → Option (Int × mm)
  | 0, _, _, _, _ => none
  | k + 1, x1, x2, x3, μ => if inR x3 ∧ inR (μ 1 0) then (if (μ 1 0) ≤ x3 then (rec29 x1 (x2 + 1) μ) else ((M5_isShortOn N x3 μ).bind fun (q8 : Int) => if inR q8 then (if q8 = 0 then (L5_first_55 N rec29 k x1 x2 (x3 + 1) μ) else (if inR x1 then (if x1 = 0 then (some (x3, μ)) else (some (x2, μ))) else none)) else none)) else none
def L5_first_29 (N : Nat) : Nat → Int → Int → mm → Option (Int × mm)
  | 0, _, _, _ => none
  | k + 1, x1, x2, μ => if inR x2 then (if 99 < x2 then (some ((-9), μ)) else ((M5_copies N 2 4 μ).bind fun (q5 : mm) => (M5_day N 2 q5).bind fun (q6 : mm) => L5_first_55 N (L5_first_29 N k) N x1 x2 0 q6)) else none
def M5_first (N : Nat) (a0 : Int) (μ : mm) : Option (Int × mm) := (M5_isIn N a0 0 1 μ).bind fun (q1 : Int) => if inR q1 then (if q1 = 0 then ((M5_no N (-2) μ).bind fun (q15 : (Int × mm)) => some (q15.1, q15.2)) else ((M5_copies N 1 2 μ).bind fun (q3 : mm) => L5_first_29 N N a0 1 q3)) else none
-- X5_isThroughOn
def M5_isThroughOn (N : Nat) (a0 : Int) (μ0 : mm) : Option Int := if 0 ≤ ((4 + (6 * a0)) + 3) ∧ ((4 + (6 * a0)) + 3) < 52 then (if inR (μ0 4 (((4 + (6 * a0)) + 3)).toNat) then (if (μ0 4 (((4 + (6 * a0)) + 3)).toNat) = 1 then (if 0 ≤ ((4 + (6 * a0)) + 2) ∧ ((4 + (6 * a0)) + 2) < 52 then ((M5_needs N 4 a0 μ0).bind fun (q4 : Int) => if inR (μ0 4 (((4 + (6 * a0)) + 2)).toNat) ∧ inR q4 then (if (μ0 4 (((4 + (6 * a0)) + 2)).toNat) < q4 then (some 0) else (some 1)) else none) else none) else (some 0)) else none) else none
-- X5_lasts
def J5_lasts_77 (N : Nat) (rec29 : Int → Int → Int → mm → Option (Int × mm)) (x1 : Int) (x3 : Int) (y0 : Int) (y1 : Int) (μ : mm) : Option (Int × mm) := bnd (y1 + y0) fun (w11 : Int) => rec29 x1 w11 (x3 + 1) μ
def L5_lasts_29 (N : Nat) : Nat → Int → Int → Int → mm → Option (Int × mm)
  | 0, _, _, _, _ => none
  | k + 1, x1, x2, x3, μ => if inR x3 then (if 99 < x3 then (some (x2, μ)) else ((M5_copies N 2 4 μ).bind fun (q5 : mm) => (M5_day N 2 q5).bind fun (q6 : mm) => (M5_isShortOn N x1 q6).bind fun (q7 : Int) => if inR q7 then (if q7 = 0 then ((M5_isThroughOn N x1 q6).bind fun (q9 : Int) => if inR q9 then (if q9 = 0 then (J5_lasts_77 N (L5_lasts_29 N k) x1 x3 0 x2 q6) else (J5_lasts_77 N (L5_lasts_29 N k) x1 x3 1 x2 q6)) else none) else (some (x2, q6))) else none)) else none
def M5_lasts (N : Nat) (a0 : Int) (μ : mm) : Option (Int × mm) := (M5_isOne N a0 μ).bind fun (q1 : Int) => if inR q1 then (if q1 = 0 then ((M5_no N (-1) μ).bind fun (q15 : (Int × mm)) => some (q15.1, q15.2)) else ((M5_copies N 1 2 μ).bind fun (q3 : mm) => L5_lasts_29 N N a0 0 1 q3)) else none
-- X5_lacks
def L5_lacks_4 (N : Nat) : Nat → Int → Int → mm → Option Int
  | 0, _, _, _ => none
  | k + 1, x1, x2, μ => if inR x2 ∧ inR (μ 1 0) then (if (μ 1 0) ≤ x2 then (some x1) else ((M5_lacksIn N 1 x2 μ).bind fun (q2 : Int) => bnd (x1 + q2) fun (w3 : Int) => L5_lacks_4 N k w3 (x2 + 1) μ)) else none
def M5_lacks (N : Nat)  (μ0 : mm) : Option Int := L5_lacks_4 N N 0 0 μ0
-- X5_next
def J5_next_73 (N : Nat) (rec21 : Int → Int → Int → mm → Option (Int × mm)) (x1 : Int) (x2 : Int) (x3 : Int) (μ : mm) : Option (Int × mm) := rec21 x1 x2 (x3 + 1) μ
def J5_next_71 (N : Nat) (rec21 : Int → Int → Int → mm → Option (Int × mm)) (x1 : Int) (x3 : Int) (μ : mm) : Option (Int × mm) := J5_next_73 N rec21 x1 x3 x3 μ
def L5_next_21 (N : Nat) : Nat → Int → Int → Int → mm → Option (Int × mm)
  | 0, _, _, _, _ => none
  | k + 1, x1, x2, x3, μ => if inR x3 ∧ inR (μ 1 0) then (if (μ 1 0) ≤ x3 then (if inR x2 then (if x2 < 0 then (some (x2, μ)) else (if inR x1 then (if x1 = 0 then (some (x2, μ)) else (if 0 ≤ ((4 + (6 * x2)) + 3) ∧ ((4 + (6 * x2)) + 3) < 52 then (some ((μ 1 (((4 + (6 * x2)) + 3)).toNat), μ)) else none)) else none)) else none) else (if 0 ≤ ((4 + (6 * x3)) + 3) ∧ ((4 + (6 * x3)) + 3) < 52 then (if inR (μ 1 (((4 + (6 * x3)) + 3)).toNat) then (if (μ 1 (((4 + (6 * x3)) + 3)).toNat) ≤ 0 then (J5_next_73 N (L5_next_21 N k) x1 x2 x3 μ) else (if inR x2 then (if x2 < 0 then (J5_next_71 N (L5_next_21 N k) x1 x3 μ) else (if 0 ≤ ((4 + (6 * x3)) + 3) ∧ ((4 + (6 * x3)) + 3) < 52 then (if 0 ≤ ((4 + (6 * x2)) + 3) ∧ ((4 + (6 * x2)) + 3) < 52 then (if inR (μ 1 (((4 + (6 * x3)) + 3)).toNat) ∧ inR (μ 1 (((4 + (6 * x2)) + 3)).toNat) then (if (μ 1 (((4 + (6 * x2)) + 3)).toNat) ≤ (μ 1 (((4 + (6 * x3)) + 3)).toNat) then (J5_next_73 N (L5_next_21 N k) x1 x2 x3 μ) else (J5_next_71 N (L5_next_21 N k) x1 x3 μ)) else none) else none) else none)) else none)) else none) else none)) else none
def M5_next (N : Nat) (a0 : Int) (μ : mm) : Option (Int × mm) := (M5_isIn N a0 0 1 μ).bind fun (q1 : Int) => if inR q1 then (if q1 = 0 then ((M5_no N (-2) μ).bind fun (q19 : (Int × mm)) => some (q19.1, q19.2)) else (L5_next_21 N N a0 (-9) 0 μ)) else none
-- X5_isShortWithin
def L5_isShortWithin_2 (N : Nat) : Nat → Int → Int → Int → mm → Option (Int × mm)
  | 0, _, _, _, _ => none
  | k + 1, x1, x2, x3, μ => if inR x3 ∧ inR x2 then (if x2 ≤ x3 then (some (0, μ)) else ((M5_copies N 2 4 μ).bind fun (q2 : mm) => (M5_day N 2 q2).bind fun (q3 : mm) => (M5_isShortOn N x1 q3).bind fun (q4 : Int) => if inR q4 then (if q4 = 0 then (L5_isShortWithin_2 N k x1 x2 (x3 + 1) q3) else (some (1, q3))) else none)) else none
def M5_isShortWithin (N : Nat) (a0 : Int) (a1 : Int) (μ : mm) : Option (Int × mm) := L5_isShortWithin_2 N N a0 a1 0 μ
-- X5_enough
def L5_enough_33 (N : Nat) : Nat → Int → Int → Int → mm → Option (Int × mm)
  | 0, _, _, _, _ => none
  | k + 1, x1, x2, x4, μ => if inR x4 then (if 100 ≤ x4 then (some ((-9), μ)) else ((M5_copies N 1 2 μ).bind fun (q5 : mm) => if 0 ≤ ((4 + (6 * x1)) + 2) ∧ ((4 + (6 * x1)) + 2) < 52 then (bnd (mu q5 2 (((4 + (6 * x1)) + 2)).toNat x4) fun (μ7 : mm) => (M5_isShortWithin N x1 x2 μ7).bind fun (q8 : (Int × mm)) => if inR q8.1 then (if q8.1 = 0 then (some (x4, q8.2)) else (L5_enough_33 N k x1 x2 (x4 + 1) q8.2)) else none) else none)) else none
def J5_enough_19 (N : Nat) (x1 : Int) (x2 : Int) (y0 : Int) (μ : mm) : Option (Int × mm) := if inR y0 then (if y0 = 0 then (L5_enough_33 N N x1 x2 0 μ) else ((M5_no N y0 μ).bind fun (q12 : (Int × mm)) => some (q12.1, q12.2))) else none
def M5_enough (N : Nat) (a0 : Int) (a1 : Int) (μ : mm) : Option (Int × mm) := (M5_isOne N a0 μ).bind fun (q1 : Int) => if inR q1 then (if q1 = 0 then (J5_enough_19 N a0 a1 (-1) μ) else ((M5_wrongBy N a1 1 60 μ).bind fun (q14 : Int) => J5_enough_19 N a0 a1 q14 μ)) else none
-- X5_lacksOf
def J5_lacksOf_35 (N : Nat) (rec4 : Int → Int → Int → mm → Option Int) (x1 : Int) (x3 : Int) (y0 : Int) (y1 : Int) (μ : mm) : Option Int := bnd (y1 + y0) fun (w4 : Int) => rec4 x1 w4 (x3 + 1) μ
def L5_lacksOf_4 (N : Nat) : Nat → Int → Int → Int → mm → Option Int
  | 0, _, _, _, _ => none
  | k + 1, x1, x2, x3, μ => if inR x3 ∧ inR (μ 1 0) then (if (μ 1 0) ≤ x3 then (some x2) else ((M5_has N x1 x3 μ).bind fun (q2 : Int) => if inR q2 then (if q2 = 0 then (J5_lacksOf_35 N (L5_lacksOf_4 N k) x1 x3 0 x2 μ) else ((M5_lacksIn N 1 x3 μ).bind fun (q5 : Int) => J5_lacksOf_35 N (L5_lacksOf_4 N k) x1 x3 q5 x2 μ)) else none)) else none
def M5_lacksOf (N : Nat) (a0 : Int) (μ0 : mm) : Option Int := L5_lacksOf_4 N N a0 0 0 μ0
-- X5_lacking
def J5_lacking_33 (N : Nat) (rec4 : Int → Int → mm → Option Int) (x2 : Int) (y0 : Int) (y1 : Int) (μ : mm) : Option Int := bnd (zor y1 y0) fun (w4 : Int) => rec4 w4 (x2 + 1) μ
def L5_lacking_4 (N : Nat) : Nat → Int → Int → mm → Option Int
  | 0, _, _, _ => none
  | k + 1, x1, x2, μ => if inR x2 ∧ inR (μ 1 0) then (if (μ 1 0) ≤ x2 then (some x1) else ((M5_lacksIn N 1 x2 μ).bind fun (q2 : Int) => if inR q2 then (if q2 ≤ 0 then (J5_lacking_33 N (L5_lacking_4 N k) x2 0 x1 μ) else (if 0 ≤ x2 ∧ x2 < 32 then (J5_lacking_33 N (L5_lacking_4 N k) x2 (1 * 2 ^ (x2 : Int).toNat) x1 μ) else none)) else none)) else none
def M5_lacking (N : Nat)  (μ0 : mm) : Option Int := L5_lacking_4 N N 0 0 μ0
-- X5_serve
def J5_serve_71 (N : Nat) (rec26 : Int → Int → Int → Int → mm → Option (Int × mm)) (x1 : Int) (x2 : Int) (x3 : Int) (x4 : Int) (μ : mm) : Option (Int × mm) := rec26 x1 x2 x3 (x4 + 1) μ
def L5_serve_26 (N : Nat) : Nat → Int → Int → Int → Int → mm → Option (Int × mm)
  | 0, _, _, _, _, _ => none
  | k + 1, x1, x2, x3, x4, μ => if inR x4 ∧ inR x2 then (if x2 < x4 then (if inR x1 then (if x1 = 0 then ((M5_bits N x3 μ).bind fun (q9 : Int) => some (q9, μ)) else (if inR x1 then (if x1 = 1 then (some (x3, μ)) else ((M5_lacksOf N x3 μ).bind fun (q7 : Int) => some (((μ 1 2) - q7), μ))) else none)) else none) else (if inR (zand x4 (zxor x2 (-1))) then (if (zand x4 (zxor x2 (-1))) = 0 then ((M5_bits N x4 μ).bind fun (q12 : Int) => (M5_bits N x3 μ).bind fun (q13 : Int) => if inR q12 ∧ inR q13 then (if q12 ≤ q13 then (J5_serve_71 N (L5_serve_26 N k) x1 x2 x3 x4 μ) else ((M5_lacksOf N x4 μ).bind fun (q15 : Int) => if inR q15 ∧ inR (μ 1 2) then (if (μ 1 2) < q15 then (J5_serve_71 N (L5_serve_26 N k) x1 x2 x3 x4 μ) else (J5_serve_71 N (L5_serve_26 N k) x1 x2 x4 x4 μ)) else none)) else none) else (J5_serve_71 N (L5_serve_26 N k) x1 x2 x3 x4 μ)) else none)) else none
def M5_serve (N : Nat) (a0 : Int) (μ : mm) : Option (Int × mm) := (M5_isIn N a0 0 2 μ).bind fun (q1 : Int) => if inR q1 then (if q1 = 0 then ((M5_no N (-2) μ).bind fun (q21 : (Int × mm)) => some (q21.1, q21.2)) else ((M5_lacking N μ).bind fun (q3 : Int) => L5_serve_26 N N a0 q3 0 0 μ)) else none
-- X5_signs
def M5_signs (N : Nat) (a0 : Int) (μ : mm) : Option (Int × mm) := (M5_lacksIn N 2 a0 μ).bind fun (q1 : Int) => if inR q1 ∧ inR (μ 2 2) then (if q1 ≤ (μ 2 2) then ((M5_issuesIn N 2 a0 q1 μ).bind fun (q3 : mm) => some (q1, q3)) else (some (0, μ))) else none
-- X5_best
def J5_best_140 (N : Nat) (rec43 : Int → Int → Int → Int → Int → mm → Option (Int × mm)) (x1 : Int) (x2 : Int) (x4 : Int) (x5 : Int) (x6 : Int) (μ : mm) : Option (Int × mm) := rec43 x1 x2 x4 x5 (x6 + 1) μ
def J5_best_106 (N : Nat) (rec43 : Int → Int → Int → Int → Int → mm → Option (Int × mm)) (rec73 : Int → Int → Int → Int → Int → Int → Int → mm → Option (Int × mm)) (x1 : Int) (x2 : Int) (x4 : Int) (x5 : Int) (x6 : Int) (x8 : Int) (y0 : Int) (y1 : Int) (μ : mm) : Option (Int × mm) := bnd (y1 + y0) fun (w15 : Int) => rec73 x1 x2 x4 x5 x6 w15 (x8 + 1) μ
def L5_best_73 (N : Nat) (rec43 : Int → Int → Int → Int → Int → mm → Option (Int × mm)) : Nat → Int → Int → Int → Int → Int → Int → Int → mm → Option (Int × mm)
  | 0, _, _, _, _, _, _, _, _ => none
  | k + 1, x1, x2, x4, x5, x6, x7, x8, μ => if inR x8 ∧ inR (μ 1 0) then (if (μ 1 0) ≤ x8 then ((M5_throughBehind N x1 μ).bind fun (q10 : (Int × mm)) => if inR q10.1 ∧ inR x5 then (if x5 < q10.1 then (J5_best_140 N rec43 x1 x2 x6 q10.1 x6 q10.2) else (J5_best_140 N rec43 x1 x2 x4 x5 x6 q10.2)) else none) else ((M5_has N x6 x8 μ).bind fun (q13 : Int) => if inR q13 then (if q13 = 0 then (J5_best_106 N rec43 (L5_best_73 N rec43 k) x1 x2 x4 x5 x6 x8 0 x7 μ) else ((M5_signs N x8 μ).bind fun (q16 : (Int × mm)) => J5_best_106 N rec43 (L5_best_73 N rec43 k) x1 x2 x4 x5 x6 x8 q16.1 x7 q16.2)) else none)) else none
def L5_best_43 (N : Nat) : Nat → Int → Int → Int → Int → Int → mm → Option (Int × mm)
  | 0, _, _, _, _, _, _ => none
  | k + 1, x1, x2, x4, x5, x6, μ => if 0 ≤ (μ 1 0) ∧ (μ 1 0) < 32 then (if inR x6 ∧ inR (1 * 2 ^ ((μ 1 0) : Int).toNat) then (if (1 * 2 ^ ((μ 1 0) : Int).toNat) ≤ x6 then (if inR x2 then (if x2 = 0 then (some (x5, μ)) else (some (x4, μ))) else none) else ((M5_copies N 1 2 μ).bind fun (q8 : mm) => L5_best_73 N (L5_best_43 N k) N x1 x2 x4 x5 x6 0 0 q8)) else none) else none
def J5_best_24 (N : Nat) (x1 : Int) (x2 : Int) (x3 : Int) (μ : mm) : Option (Int × mm) := if inR x3 then (if x3 = 0 then (L5_best_43 N N x1 x2 0 (-1) 0 μ) else ((M5_no N x3 μ).bind fun (q20 : (Int × mm)) => some (q20.1, q20.2))) else none
def M5_best (N : Nat) (a0 : Int) (a1 : Int) (μ : mm) : Option (Int × mm) := (M5_wrongBy N a0 1 30 μ).bind fun (q1 : Int) => if inR q1 then (if q1 = 0 then ((M5_isIn N a1 0 1 μ).bind fun (q22 : Int) => if inR q22 then (if q22 = 0 then (J5_best_24 N a0 a1 (-2) μ) else (J5_best_24 N a0 a1 q1 μ)) else none) else (J5_best_24 N a0 a1 q1 μ)) else none
-- X5_refusesOne
def J5_refusesOne_59 (N : Nat) (rec2 : Int → mm → Option (Int × mm)) (x1 : Int) (μ : mm) : Option (Int × mm) := rec2 (x1 + 1) μ
def L5_refusesOne_2 (N : Nat) : Nat → Int → mm → Option (Int × mm)
  | 0, _, _ => none
  | k + 1, x1, μ => if inR x1 ∧ inR (μ 2 0) then (if (μ 2 0) ≤ x1 then (some ((-9), μ)) else (if 0 ≤ ((4 + (6 * x1)) + 3) ∧ ((4 + (6 * x1)) + 3) < 52 then (if inR (μ 2 (((4 + (6 * x1)) + 3)).toNat) then (if (μ 2 (((4 + (6 * x1)) + 3)).toNat) = 1 then ((M5_lacksIn N 2 x1 μ).bind fun (q4 : Int) => if inR q4 ∧ inR (μ 2 2) then (if q4 ≤ (μ 2 2) then ((M5_issuesIn N 2 x1 q4 μ).bind fun (q6 : mm) => J5_refusesOne_59 N (L5_refusesOne_2 N k) x1 q6) else (some (x1, μ))) else none) else (J5_refusesOne_59 N (L5_refusesOne_2 N k) x1 μ)) else none) else none)) else none
def M5_refusesOne (N : Nat)  (μ : mm) : Option (Int × mm) := L5_refusesOne_2 N N 0 μ
-- X5_run
def L5_run_29 (N : Nat) : Nat → Int → Int → mm → Option (Int × mm)
  | 0, _, _, _ => none
  | k + 1, x1, x2, μ => if inR x2 then (if 60 < x2 then (some ((-9), μ)) else ((M5_refusesOne N μ).bind fun (q5 : (Int × mm)) => if inR q5.1 then (if q5.1 < 0 then ((M5_day N 2 q5.2).bind fun (q7 : mm) => L5_run_29 N k x1 (x2 + 1) q7) else (if inR x1 then (if x1 = 0 then (some (x2, q5.2)) else (some (q5.1, q5.2))) else none)) else none)) else none
def M5_run (N : Nat) (a0 : Int) (μ : mm) : Option (Int × mm) := (M5_isIn N a0 0 1 μ).bind fun (q1 : Int) => if inR q1 then (if q1 = 0 then ((M5_no N (-2) μ).bind fun (q12 : (Int × mm)) => some (q12.1, q12.2)) else ((M5_copies N 1 2 μ).bind fun (q3 : mm) => L5_run_29 N N a0 0 q3)) else none
-- X5_servesAll
def L5_servesAll_20 (N : Nat) : Nat → Int → Int → mm → Option (Int × mm)
  | 0, _, _, _ => none
  | k + 1, x2, x3, μ => if inR x3 ∧ inR x2 then (if x2 ≤ x3 then (some (1, μ)) else ((M5_refusesOne N μ).bind fun (q4 : (Int × mm)) => if inR q4.1 then (if q4.1 < 0 then ((M5_day N 2 q4.2).bind fun (q6 : mm) => L5_servesAll_20 N k x2 (x3 + 1) q6) else (some (0, q4.2))) else none)) else none
def M5_servesAll (N : Nat) (a0 : Int) (a1 : Int) (μ : mm) : Option (Int × mm) := (M5_copies N 1 2 μ).bind fun (q1 : mm) => bnd (mu q1 2 2 a0) fun (μ2 : mm) => L5_servesAll_20 N N a1 0 μ2
-- X5_stock
def L5_stock_20 (N : Nat) : Nat → Int → Int → mm → Option (Int × mm)
  | 0, _, _, _ => none
  | k + 1, x1, x3, μ => if inR x3 then (if 999 < x3 then (some ((-9), μ)) else ((M5_servesAll N x3 x1 μ).bind fun (q4 : (Int × mm)) => if inR q4.1 then (if q4.1 = 0 then (L5_stock_20 N k x1 (x3 + 1) q4.2) else (some (x3, q4.2))) else none)) else none
def M5_stock (N : Nat) (a0 : Int) (μ : mm) : Option (Int × mm) := (M5_wrongBy N a0 1 30 μ).bind fun (q1 : Int) => if inR q1 then (if q1 = 0 then (L5_stock_20 N N a0 0 μ) else ((M5_no N q1 μ).bind fun (q8 : (Int × mm)) => some (q8.1, q8.2))) else none
-- X5_throughOf
def M5_throughOf (N : Nat) (a0 : Nat) (a1 : Int) (μ0 : mm) : Option Int := if 0 ≤ ((4 + (6 * a1)) + 4) ∧ ((4 + (6 * a1)) + 4) < 52 then (if 0 ≤ ((4 + (6 * a1)) + 4) ∧ ((4 + (6 * a1)) + 4) < 52 then (some ((μ0 a0 (((4 + (6 * a1)) + 4)).toNat) - (μ0 1 (((4 + (6 * a1)) + 4)).toNat))) else none) else none
-- X5_borrow
def J5_borrow_211 (N : Nat) (rec50 : Int → Int → Int → Int → Int → Int → mm → Option (Int × mm)) (x1 : Int) (x2 : Int) (x4 : Int) (x5 : Int) (x6 : Int) (x7 : Int) (μ : mm) : Option (Int × mm) := rec50 x1 x2 x4 x5 x6 (x7 + 1) μ
def L5_borrow_50 (N : Nat) : Nat → Int → Int → Int → Int → Int → Int → mm → Option (Int × mm)
  | 0, _, _, _, _, _, _, _ => none
  | k + 1, x1, x2, x4, x5, x6, x7, μ => if inR x7 ∧ inR (μ 1 0) then (if (μ 1 0) ≤ x7 then (some (x5, μ)) else (if inR x4 then (if x4 ≤ 0 then (some (x5, μ)) else (if inR x7 ∧ inR x1 then (if x7 = x1 then (J5_borrow_211 N (L5_borrow_50 N k) x1 x2 x4 x5 x6 x7 μ) else (if 0 ≤ ((4 + (6 * x7)) + 2) ∧ ((4 + (6 * x7)) + 2) < 52 then (if inR (μ 1 (((4 + (6 * x7)) + 2)).toNat) ∧ inR x4 then (if x4 ≤ (μ 1 (((4 + (6 * x7)) + 2)).toNat) then ((M5_takes N x2 μ).bind fun (q10 : mm) => (M5_throughOf N 2 x1 q10).bind fun (q11 : Int) => (M5_throughOf N 2 x7 q10).bind fun (q12 : Int) => bnd (q11 + q12) fun (w13 : Int) => (M5_copies N 1 2 q10).bind fun (q14 : mm) => if 0 ≤ ((4 + (6 * x7)) + 2) ∧ ((4 + (6 * x7)) + 2) < 52 then (if 0 ≤ ((4 + (6 * x7)) + 2) ∧ ((4 + (6 * x7)) + 2) < 52 then (bnd (mu q14 2 (((4 + (6 * x7)) + 2)).toNat ((q14 2 (((4 + (6 * x7)) + 2)).toNat) - x4)) fun (μ17 : mm) => if 0 ≤ ((4 + (6 * x1)) + 2) ∧ ((4 + (6 * x1)) + 2) < 52 then (if 0 ≤ ((4 + (6 * x1)) + 2) ∧ ((4 + (6 * x1)) + 2) < 52 then (bnd (mu μ17 2 (((4 + (6 * x1)) + 2)).toNat ((μ17 2 (((4 + (6 * x1)) + 2)).toNat) + x4)) fun (μ20 : mm) => (M5_daysOn N 2 x2 μ20).bind fun (q21 : mm) => (M5_throughOf N 2 x1 q21).bind fun (q22 : Int) => (M5_throughOf N 2 x7 q21).bind fun (q23 : Int) => bnd ((q22 + q23) - w13) fun (w24 : Int) => if inR w24 ∧ inR x6 then (if x6 < w24 then (J5_borrow_211 N (L5_borrow_50 N k) x1 x2 x4 x7 w24 x7 q21) else (J5_borrow_211 N (L5_borrow_50 N k) x1 x2 x4 x5 x6 x7 q21)) else none) else none) else none) else none) else none) else (J5_borrow_211 N (L5_borrow_50 N k) x1 x2 x4 x5 x6 x7 μ)) else none) else none)) else none)) else none)) else none
def J5_borrow_19 (N : Nat) (x1 : Int) (x2 : Int) (y0 : Int) (μ : mm) : Option (Int × mm) := if inR y0 then (if y0 = 0 then ((M5_lacksIn N 1 x1 μ).bind fun (q4 : Int) => L5_borrow_50 N N x1 x2 q4 (-9) 0 0 μ) else ((M5_no N y0 μ).bind fun (q31 : (Int × mm)) => some (q31.1, q31.2))) else none
def M5_borrow (N : Nat) (a0 : Int) (a1 : Int) (μ : mm) : Option (Int × mm) := (M5_isOne N a0 μ).bind fun (q1 : Int) => if inR q1 then (if q1 = 0 then (J5_borrow_19 N a0 a1 (-1) μ) else ((M5_wrongBy N a1 1 30 μ).bind fun (q33 : Int) => J5_borrow_19 N a0 a1 q33 μ)) else none
-- X5_sweep
def J5_sweep_147 (N : Nat) (rec60 : Int → Int → Int → Int → Int → Int → mm → Option (Int × mm)) (x1 : Int) (x2 : Int) (x4 : Int) (x5 : Int) (x6 : Int) (x7 : Int) (μ : mm) : Option (Int × mm) := rec60 x1 x2 x4 x5 x6 (x7 + 1) μ
def L5_sweep_60 (N : Nat) : Nat → Int → Int → Int → Int → Int → Int → mm → Option (Int × mm)
  | 0, _, _, _, _, _, _, _ => none
  | k + 1, x1, x2, x4, x5, x6, x7, μ => if inR x7 ∧ inR (μ 1 0) then (if (μ 1 0) ≤ x7 then (if inR x5 then (if x5 < 0 then (some (x5, μ)) else (if inR x2 then (if x2 = 0 then (some (x5, μ)) else (some (x6, μ))) else none)) else none) else (if 0 ≤ ((4 + (6 * x7)) + 2) ∧ ((4 + (6 * x7)) + 2) < 52 then (if inR (μ 1 (((4 + (6 * x7)) + 2)).toNat) then (if (μ 1 (((4 + (6 * x7)) + 2)).toNat) = 0 then (J5_sweep_147 N (L5_sweep_60 N k) x1 x2 x4 x5 x6 x7 μ) else ((M5_copies N 1 2 μ).bind fun (q13 : mm) => (M5_handsIn N 2 x7 q13).bind fun (q14 : mm) => (M5_daysOn N 2 x1 q14).bind fun (q15 : mm) => (M5_allOf N 2 5 q15).bind fun (q16 : Int) => bnd (q16 - x4) fun (w17 : Int) => if inR w17 ∧ inR x6 then (if w17 < x6 then (J5_sweep_147 N (L5_sweep_60 N k) x1 x2 x4 x7 w17 x7 q15) else (J5_sweep_147 N (L5_sweep_60 N k) x1 x2 x4 x5 x6 x7 q15)) else none)) else none) else none)) else none
def J5_sweep_24 (N : Nat) (x1 : Int) (x2 : Int) (x3 : Int) (μ : mm) : Option (Int × mm) := if inR x3 then (if x3 = 0 then ((M5_takes N x1 μ).bind fun (q4 : mm) => (M5_allOf N 2 5 q4).bind fun (q5 : Int) => L5_sweep_60 N N x1 x2 q5 (-9) 1000000000 0 q4) else ((M5_no N x3 μ).bind fun (q22 : (Int × mm)) => some (q22.1, q22.2))) else none
def M5_sweep (N : Nat) (a0 : Int) (a1 : Int) (μ : mm) : Option (Int × mm) := (M5_wrongBy N a0 1 30 μ).bind fun (q1 : Int) => if inR q1 then (if q1 = 0 then ((M5_isIn N a1 0 1 μ).bind fun (q24 : Int) => if inR q24 then (if q24 = 0 then (J5_sweep_24 N a0 a1 (-2) μ) else (J5_sweep_24 N a0 a1 q1 μ)) else none) else (J5_sweep_24 N a0 a1 q1 μ)) else none
-- X5_grain
def J5_grain_116 (N : Nat) (rec42 : Int → Int → Int → Int → mm → Option (Int × mm)) (x1 : Int) (x3 : Int) (x4 : Int) (x5 : Int) (μ : mm) : Option (Int × mm) := rec42 x1 x3 x4 (x5 + 1) μ
def L5_grain_42 (N : Nat) : Nat → Int → Int → Int → Int → mm → Option (Int × mm)
  | 0, _, _, _, _, _ => none
  | k + 1, x1, x3, x4, x5, μ => if inR x5 ∧ inR (μ 1 0) then (if (μ 1 0) ≤ x5 then (some (x4, μ)) else ((M5_copies N 1 2 μ).bind fun (q6 : mm) => if 0 ≤ ((4 + (6 * x5)) + 2) ∧ ((4 + (6 * x5)) + 2) < 52 then ((M5_least N 99 ((q6 2 (((4 + (6 * x5)) + 2)).toNat) + 1) q6).bind fun (q8 : Int) => if 0 ≤ ((4 + (6 * x5)) + 2) ∧ ((4 + (6 * x5)) + 2) < 52 then (bnd (mu q6 2 (((4 + (6 * x5)) + 2)).toNat q8) fun (μ10 : mm) => (M5_throughBehind N x1 μ10).bind fun (q11 : (Int × mm)) => if inR q11.1 ∧ inR x3 then (if x3 < q11.1 then (J5_grain_116 N (L5_grain_42 N k) x1 q11.1 x5 x5 q11.2) else (J5_grain_116 N (L5_grain_42 N k) x1 x3 x4 x5 q11.2)) else none) else none) else none)) else none
def M5_grain (N : Nat) (a0 : Int) (μ : mm) : Option (Int × mm) := (M5_wrongBy N a0 1 30 μ).bind fun (q1 : Int) => if inR q1 then (if q1 = 0 then ((M5_copies N 1 2 μ).bind fun (q3 : mm) => (M5_throughBehind N a0 q3).bind fun (q4 : (Int × mm)) => L5_grain_42 N N a0 q4.1 (-9) 0 q4.2) else ((M5_no N q1 μ).bind fun (q15 : (Int × mm)) => some (q15.1, q15.2))) else none
-- X5_shares
def M5_shares (N : Nat) (a0 : Int) (μ : mm) : Option (Int × mm) := (M5_isIn N a0 0 1 μ).bind fun (q1 : Int) => if inR q1 then (if q1 = 0 then ((M5_no N (-2) μ).bind fun (q12 : (Int × mm)) => some (q12.1, q12.2)) else (bnd (μ 1 0) fun (w3 : Int) => if inR w3 then (if w3 = 0 then (if inR a0 then (if a0 = 0 then (some (0, μ)) else (some ((μ 1 2), μ))) else none) else (if inR a0 then (if a0 = 0 then (if 0 ≤ (μ 1 2) ∧ 0 < w3 ∧ inR (μ 1 2) ∧ inR w3 then (some (((μ 1 2) / w3), μ)) else none) else (if 0 ≤ (μ 1 2) ∧ 0 < w3 ∧ inR (μ 1 2) ∧ inR w3 then (some (((μ 1 2) % w3), μ)) else none)) else none)) else none)) else none
-- X5_richest
def J5_richest_44 (N : Nat) (rec5 : Int → Int → mm → Option Int) (x1 : Int) (x2 : Int) (μ : mm) : Option Int := rec5 x1 (x2 + 1) μ
def J5_richest_42 (N : Nat) (rec5 : Int → Int → mm → Option Int) (x2 : Int) (μ : mm) : Option Int := J5_richest_44 N rec5 x2 x2 μ
def L5_richest_5 (N : Nat) : Nat → Int → Int → mm → Option Int
  | 0, _, _, _ => none
  | k + 1, x1, x2, μ => if inR x2 ∧ inR (μ 1 0) then (if (μ 1 0) ≤ x2 then (some x1) else (if inR x1 then (if x1 < 0 then (J5_richest_42 N (L5_richest_5 N k) x2 μ) else (if 0 ≤ ((4 + (6 * x2)) + 2) ∧ ((4 + (6 * x2)) + 2) < 52 then (if 0 ≤ ((4 + (6 * x1)) + 2) ∧ ((4 + (6 * x1)) + 2) < 52 then (if inR (μ 1 (((4 + (6 * x2)) + 2)).toNat) ∧ inR (μ 1 (((4 + (6 * x1)) + 2)).toNat) then (if (μ 1 (((4 + (6 * x2)) + 2)).toNat) ≤ (μ 1 (((4 + (6 * x1)) + 2)).toNat) then (J5_richest_44 N (L5_richest_5 N k) x1 x2 μ) else (J5_richest_42 N (L5_richest_5 N k) x2 μ)) else none) else none) else none)) else none)) else none
def M5_richest (N : Nat)  (μ0 : mm) : Option Int := L5_richest_5 N N (-9) 0 μ0
-- X5_trusted
def M5_trusted (N : Nat) (a0 : Int) (μ : mm) : Option (Int × mm) := (M5_isOne N a0 μ).bind fun (q1 : Int) => if inR q1 then (if q1 = 0 then ((M5_noFar N (-1) μ).bind fun (q3 : (Int × mm)) => some (q3.1, q3.2)) else (if 0 ≤ ((4 + (6 * a0)) + 4) ∧ ((4 + (6 * a0)) + 4) < 52 then (if 0 ≤ ((4 + (6 * a0)) + 5) ∧ ((4 + (6 * a0)) + 5) < 52 then (some (((μ 1 (((4 + (6 * a0)) + 4)).toNat) - (μ 1 (((4 + (6 * a0)) + 5)).toNat)), μ)) else none) else none)) else none
-- X5_worth
def M5_worth (N : Nat)  (μ0 : mm) : Option Int := (M5_allOf N 1 4 μ0).bind fun (q1 : Int) => (M5_allOf N 1 5 μ0).bind fun (q2 : Int) => some (q1 - q2)
-- X5_ownBy
def J5_ownBy_43 (N : Nat) (x1 : Int) (x2 : Int) (x6 : Int) (x7 : Int) (y0 : Int) (μ : mm) : Option (Int × mm) := (M5_daysOn N 2 x6 μ).bind fun (q4 : mm) => (M5_throughOf N 2 x1 q4).bind fun (q5 : Int) => if inR x1 ∧ inR x2 then (if x1 = x2 then (if 0 ≤ x7 ∧ inR x7 then (some ((q5 - (x7 / 10)), q4)) else none) else (if 0 ≤ y0 ∧ inR y0 then (some ((q5 - (y0 / 10)), q4)) else none)) else none
def J5_ownBy_25 (N : Nat) (x1 : Int) (x2 : Int) (x4 : Int) (x5 : Int) (x6 : Int) (y0 : Int) (μ : mm) : Option (Int × mm) := if inR x5 then (if x5 = 1 then ((M5_signs N x4 μ).bind fun (q10 : (Int × mm)) => J5_ownBy_43 N x1 x2 x6 y0 q10.1 q10.2) else (J5_ownBy_43 N x1 x2 x6 y0 0 μ)) else none
def M5_ownBy (N : Nat) (a0 : Int) (a1 : Int) (a2 : Int) (a3 : Int) (a4 : Int) (a5 : Int) (μ : mm) : Option (Int × mm) := (M5_copies N 1 2 μ).bind fun (q1 : mm) => if inR a2 then (if a2 = 1 then ((M5_signs N a1 q1).bind fun (q12 : (Int × mm)) => J5_ownBy_25 N a0 a1 a3 a4 a5 q12.1 q12.2) else (J5_ownBy_25 N a0 a1 a3 a4 a5 0 q1)) else none
-- X5_two
def J5_two_134 (N : Nat) (rec49 : Int → Int → Int → Int → mm → Option (Int × mm)) (x1 : Int) (x2 : Int) (x3 : Int) (x5 : Int) (μ : mm) : Option (Int × mm) := rec49 x1 x2 x3 (x5 + 1) μ
def L5_two_49 (N : Nat) : Nat → Int → Int → Int → Int → mm → Option (Int × mm)
  | 0, _, _, _, _, _ => none
  | k + 1, x1, x2, x3, x5, μ => if inR x5 then (if 4 ≤ x5 then (some ((-9), μ)) else (if 0 ≤ x5 ∧ inR x5 then (bnd (x5 / 2) fun (w6 : Int) => if 0 ≤ x5 ∧ inR x5 then (bnd (x5 % 2) fun (w8 : Int) => (M5_ownBy N x1 x1 (1 - w6) x2 w8 x3 μ).bind fun (q9 : (Int × mm)) => (M5_ownBy N x1 x1 w6 x2 w8 x3 q9.2).bind fun (q10 : (Int × mm)) => if inR q9.1 ∧ inR q10.1 then (if q10.1 < q9.1 then (J5_two_134 N (L5_two_49 N k) x1 x2 x3 x5 q10.2) else ((M5_ownBy N x2 x1 w6 x2 (1 - w8) x3 q10.2).bind fun (q12 : (Int × mm)) => (M5_ownBy N x2 x1 w6 x2 w8 x3 q12.2).bind fun (q13 : (Int × mm)) => if inR q12.1 ∧ inR q13.1 then (if q13.1 < q12.1 then (J5_two_134 N (L5_two_49 N k) x1 x2 x3 x5 q13.2) else (some (((10 * w6) + w8), q13.2))) else none)) else none) else none) else none)) else none
def J5_two_32 (N : Nat) (x1 : Int) (x2 : Int) (x3 : Int) (y0 : Int) (μ : mm) : Option (Int × mm) := if inR y0 then (if y0 = 0 then (L5_two_49 N N x1 x2 x3 0 μ) else ((M5_no N y0 μ).bind fun (q18 : (Int × mm)) => some (q18.1, q18.2))) else none
def J5_two_31 (N : Nat) (x1 : Int) (x2 : Int) (x3 : Int) (μ : mm) : Option (Int × mm) := J5_two_32 N x1 x2 x3 (-1) μ
def M5_two (N : Nat) (a0 : Int) (a1 : Int) (a2 : Int) (μ : mm) : Option (Int × mm) := (M5_isOne N a0 μ).bind fun (q1 : Int) => if inR q1 then (if q1 = 0 then (J5_two_31 N a0 a1 a2 μ) else ((M5_isOne N a1 μ).bind fun (q20 : Int) => if inR q20 then (if q20 = 0 then (J5_two_31 N a0 a1 a2 μ) else (if inR a0 ∧ inR a1 then (if a0 = a1 then (J5_two_31 N a0 a1 a2 μ) else ((M5_wrongBy N a2 1 30 μ).bind fun (q23 : Int) => J5_two_32 N a0 a1 a2 q23 μ)) else none)) else none)) else none
-- X5_gcd
def L5_gcd_6 (N : Nat) : Nat → Int → Int → mm → Option Int
  | 0, _, _, _ => none
  | k + 1, x4, x6, μ => if inL x6 then (if inR (zcmp x6 0) then (if (zcmp x6 0) = 0 then (some x4) else (if 0 ≤ x4 ∧ 0 < x6 ∧ inL x4 ∧ inL x6 then (bnd (x4 % x6) fun (w4 : Int) => L5_gcd_6 N k x6 w4 μ) else none)) else none) else none
def M5_gcd (N : Nat) (a0 : Int) (a1 : Int) (μ0 : mm) : Option Int := L5_gcd_6 N N a0 a1 μ0
-- X5_partOf
def J5_partOf_20 (N : Nat) (x0 : Int) (x2 : Int) (y0 : Int) (μ : mm) : Option Int := (M5_gcd N x0 x2 μ).bind fun (q4 : Int) => if 0 ≤ y0 ∧ 0 < q4 ∧ inL y0 ∧ inL q4 then (some (y0 / q4)) else none
def M5_partOf (N : Nat) (a0 : Int) (a1 : Int) (a2 : Int) (μ0 : mm) : Option Int := if inL a0 then (if inR (zcmp a0 0) then (if (zcmp a0 0) = 0 then (if inR a2 then (some a2) else none) else (if inR a2 then (if a2 = 0 then (J5_partOf_20 N a0 a1 a0 μ0) else (J5_partOf_20 N a0 a1 a1 μ0)) else none)) else none) else none
-- X5_slip
def J5_slip_28 (N : Nat) (μ : mm) : Option (Int × mm) := (M5_noWide N (-4) μ).bind fun (q4 : (Int × mm)) => some (q4.1, q4.2)
def J5_slip_54 (N : Nat) (μ : mm) : Option (Int × mm) := (M5_noWide N (-6) μ).bind fun (q8 : (Int × mm)) => some (q8.1, q8.2)
def J5_slip_235 (N : Nat) (rec109 : Int → Int → Int → Int → Int → Int → Int → Int → mm → Option (Int × mm)) (x1 : Int) (x2 : Int) (x3 : Int) (x4 : Int) (x5 : Int) (x8 : Int) (x10 : Int) (y0 : Int) (y1 : Int) (μ : mm) : Option (Int × mm) := bnd (y1 + y0) fun (w21 : Int) => rec109 x1 x2 x3 x4 x5 w21 x8 (x10 + 1) μ
def J5_slip_200 (N : Nat) (rec109 : Int → Int → Int → Int → Int → Int → Int → Int → mm → Option (Int × mm)) (rec134 : Int → Int → Int → Int → Int → Int → Int → Int → Int → Int → mm → Option (Int × mm)) (x1 : Int) (x2 : Int) (x3 : Int) (x4 : Int) (x5 : Int) (x6 : Int) (x8 : Int) (x10 : Int) (x11 : Int) (x13 : Int) (μ : mm) : Option (Int × mm) := (M5_day N 2 μ).bind fun (q29 : mm) => rec134 x1 x2 x3 x4 x5 x6 x8 x10 x11 (x13 + 1) q29
def J5_slip_160 (N : Nat) (rec109 : Int → Int → Int → Int → Int → Int → Int → Int → mm → Option (Int × mm)) (rec134 : Int → Int → Int → Int → Int → Int → Int → Int → Int → Int → mm → Option (Int × mm)) (x1 : Int) (x2 : Int) (x3 : Int) (x4 : Int) (x5 : Int) (x6 : Int) (x8 : Int) (x10 : Int) (x13 : Int) (y0 : Int) (y1 : Int) (μ : mm) : Option (Int × mm) := bnd (y1 * y0) fun (w26 : Int) => (M5_has N x10 x13 μ).bind fun (q27 : Int) => if inR q27 then (if q27 = 0 then (J5_slip_200 N rec109 rec134 x1 x2 x3 x4 x5 x6 x8 x10 w26 x13 μ) else (if 0 ≤ ((4 + (6 * x1)) + 2) ∧ ((4 + (6 * x1)) + 2) < 52 then (if inR (μ 2 (((4 + (6 * x1)) + 2)).toNat) then (if (μ 2 (((4 + (6 * x1)) + 2)).toNat) ≤ 0 then (J5_slip_200 N rec109 rec134 x1 x2 x3 x4 x5 x6 x8 x10 w26 x13 μ) else (if 0 ≤ ((4 + (6 * x1)) + 2) ∧ ((4 + (6 * x1)) + 2) < 52 then (if 0 ≤ ((4 + (6 * x1)) + 2) ∧ ((4 + (6 * x1)) + 2) < 52 then (bnd (mu μ 2 (((4 + (6 * x1)) + 2)).toNat ((μ 2 (((4 + (6 * x1)) + 2)).toNat) - 1)) fun (μ34 : mm) => J5_slip_200 N rec109 rec134 x1 x2 x3 x4 x5 x6 x8 x10 w26 x13 μ34) else none) else none)) else none) else none)) else none
def L5_slip_134 (N : Nat) (rec109 : Int → Int → Int → Int → Int → Int → Int → Int → mm → Option (Int × mm)) : Nat → Int → Int → Int → Int → Int → Int → Int → Int → Int → Int → mm → Option (Int × mm)
  | 0, _, _, _, _, _, _, _, _, _, _, _ => none
  | k + 1, x1, x2, x3, x4, x5, x6, x8, x10, x11, x13, μ => if inR x13 ∧ inR x2 then (if x2 ≤ x13 then ((M5_throughOf N 2 x1 μ).bind fun (q19 : Int) => if inR q19 ∧ inR x4 then (if q19 < x4 then (J5_slip_235 N rec109 x1 x2 x3 x4 x5 x8 x10 0 x6 μ) else (J5_slip_235 N rec109 x1 x2 x3 x4 x5 x8 x10 x11 x6 μ)) else none) else ((M5_has N x10 x13 μ).bind fun (q23 : Int) => if inR q23 then (if q23 = 0 then (if inR (x3 - 1) then (J5_slip_160 N rec109 (L5_slip_134 N rec109 k) x1 x2 x3 x4 x5 x6 x8 x10 x13 (x3 - 1) x11 μ) else none) else (J5_slip_160 N rec109 (L5_slip_134 N rec109 k) x1 x2 x3 x4 x5 x6 x8 x10 x13 1 x11 μ)) else none)) else none
def L5_slip_109 (N : Nat) : Nat → Int → Int → Int → Int → Int → Int → Int → Int → mm → Option (Int × mm)
  | 0, _, _, _, _, _, _, _, _, _ => none
  | k + 1, x1, x2, x3, x4, x5, x6, x8, x10, μ => if 0 ≤ x2 ∧ x2 < 32 then (if inR x10 ∧ inR (1 * 2 ^ (x2 : Int).toNat) then (if (1 * 2 ^ (x2 : Int).toNat) ≤ x10 then ((M5_partOf N x6 x8 x5 μ).bind fun (q16 : Int) => some (q16, μ)) else ((M5_copies N 1 2 μ).bind fun (q17 : mm) => L5_slip_134 N (L5_slip_109 N k) N x1 x2 x3 x4 x5 x6 x8 x10 1 0 q17)) else none) else none
def L5_slip_87 (N : Nat) : Nat → Int → Int → Int → Int → Int → Int → Int → Int → mm → Option (Int × mm)
  | 0, _, _, _, _, _, _, _, _, _ => none
  | k + 1, x1, x2, x3, x4, x5, x6, x8, x10, μ => if inR x10 ∧ inR x2 then (if x2 ≤ x10 then (L5_slip_109 N N x1 x2 x3 x4 x5 x6 x8 0 μ) else (if inR x3 then (bnd (x8 * x3) fun (w41 : Int) => L5_slip_87 N k x1 x2 x3 x4 x5 x6 w41 (x10 + 1) μ) else none)) else none
def M5_slip (N : Nat) (a0 : Int) (a1 : Int) (a2 : Int) (a3 : Int) (a4 : Int) (μ : mm) : Option (Int × mm) := (M5_isOne N a0 μ).bind fun (q1 : Int) => if inR q1 then (if q1 = 0 then ((M5_noWide N (-1) μ).bind fun (q51 : (Int × mm)) => some (q51.1, q51.2)) else (if inR a1 then (if a1 < 0 then (J5_slip_28 N μ) else (if inR a3 then (if a3 < 0 then (J5_slip_28 N μ) else (if inR a2 then (if 2 ≤ a2 then (if inR a1 then (if 7 < a1 then (J5_slip_54 N μ) else (if inR a2 then (if 20 < a2 then (J5_slip_54 N μ) else (if inR a3 then (if a3 ≤ 9 then ((M5_isIn N a4 0 1 μ).bind fun (q11 : Int) => if inR q11 then (if q11 = 0 then ((M5_noWide N (-2) μ).bind fun (q43 : (Int × mm)) => some (q43.1, q43.2)) else (L5_slip_87 N N a0 a1 a2 a3 a4 0 1 0 μ)) else none) else (J5_slip_54 N μ)) else none)) else none)) else none) else (J5_slip_28 N μ)) else none)) else none)) else none)) else none
-- X5_mean
def M5_mean (N : Nat) (a0 : Int) (μ : mm) : Option (Int × mm) := (M5_isIn N a0 0 1 μ).bind fun (q1 : Int) => if inR q1 then (if q1 = 0 then ((M5_noWide N (-2) μ).bind fun (q3 : (Int × mm)) => some (q3.1, q3.2)) else ((M5_allOf N 1 2 μ).bind fun (q4 : Int) => if inR q4 then (if inR (μ 1 0) then ((M5_partOf N q4 (μ 1 0) a0 μ).bind fun (q7 : Int) => some (q7, μ)) else none) else none)) else none
-- X5_whatIs
def J5_whatIs_146 (N : Nat) (rec35 : Int → Int → Int → Int → mm → Option (Int × mm)) (x1 : Int) (x2 : Int) (x4 : Int) (y0 : Int) (y1 : Int) (μ : mm) : Option (Int × mm) := bnd (zor y1 y0) fun (w12 : Int) => rec35 x1 x2 w12 (x4 + 1) μ
def J5_whatIs_116 (N : Nat) (rec35 : Int → Int → Int → Int → mm → Option (Int × mm)) (rec80 : Int → Int → Int → Int → Int → Int → mm → Option (Int × mm)) (x1 : Int) (x2 : Int) (x3 : Int) (x4 : Int) (x6 : Int) (y0 : Int) (y1 : Int) (μ : mm) : Option (Int × mm) := bnd (zand y1 y0) fun (w18 : Int) => (M5_day N 2 μ).bind fun (q19 : mm) => rec80 x1 x2 x3 x4 w18 (x6 + 1) q19
def L5_whatIs_80 (N : Nat) (rec35 : Int → Int → Int → Int → mm → Option (Int × mm)) : Nat → Int → Int → Int → Int → Int → Int → mm → Option (Int × mm)
  | 0, _, _, _, _, _, _, _ => none
  | k + 1, x1, x2, x3, x4, x5, x6, μ => if inR x6 ∧ inR (μ 0 9) then (if (μ 0 9) ≤ x6 then (if inR x5 then (if x5 = 0 then (J5_whatIs_146 N rec35 x1 x2 x4 0 x3 μ) else (if 0 ≤ x4 ∧ x4 < 32 then (J5_whatIs_146 N rec35 x1 x2 x4 (1 * 2 ^ (x4 : Int).toNat) x3 μ) else none)) else none) else (if 0 ≤ ((4 + (6 * x1)) + 2) ∧ ((4 + (6 * x1)) + 2) < 52 then (if 0 ≤ x6 ∧ x6 < 16 then (if inR (μ 2 (((4 + (6 * x1)) + 2)).toNat) ∧ inR (μ 6 (x6).toNat) then (if (μ 2 (((4 + (6 * x1)) + 2)).toNat) = (μ 6 (x6).toNat) then (J5_whatIs_116 N rec35 (L5_whatIs_80 N rec35 k) x1 x2 x3 x4 x6 1 x5 μ) else (J5_whatIs_116 N rec35 (L5_whatIs_80 N rec35 k) x1 x2 x3 x4 x6 0 x5 μ)) else none) else none) else none)) else none
def J5_whatIs_48 (N : Nat) (rec35 : Int → Int → Int → Int → mm → Option (Int × mm)) (x1 : Int) (x2 : Int) (x3 : Int) (x4 : Int) (y0 : Int) (y1 : Int) (μ : mm) : Option (Int × mm) := if inR y1 ∧ inR y0 then (if y0 ≤ y1 then (some (x3, μ)) else ((M5_copies N 1 2 μ).bind fun (q7 : mm) => if 0 ≤ ((4 + (6 * x1)) + x2) ∧ ((4 + (6 * x1)) + x2) < 52 then (bnd (mu q7 2 (((4 + (6 * x1)) + x2)).toNat x4) fun (μ9 : mm) => L5_whatIs_80 N rec35 N x1 x2 x3 x4 1 0 μ9) else none)) else none
def L5_whatIs_35 (N : Nat) : Nat → Int → Int → Int → Int → mm → Option (Int × mm)
  | 0, _, _, _, _, _ => none
  | k + 1, x1, x2, x3, x4, μ => if inR x2 then (if x2 = 0 then (J5_whatIs_48 N (L5_whatIs_35 N k) x1 x2 x3 x4 6 x4 μ) else (J5_whatIs_48 N (L5_whatIs_35 N k) x1 x2 x3 x4 10 x4 μ)) else none
def M5_whatIs (N : Nat) (a0 : Int) (a1 : Int) (μ : mm) : Option (Int × mm) := (M5_isOne N a0 μ).bind fun (q1 : Int) => if inR q1 then (if q1 = 0 then ((M5_no N (-1) μ).bind fun (q26 : (Int × mm)) => some (q26.1, q26.2)) else ((M5_isIn N a1 0 1 μ).bind fun (q3 : Int) => if inR q3 then (if q3 = 0 then ((M5_no N (-2) μ).bind fun (q24 : (Int × mm)) => some (q24.1, q24.2)) else (L5_whatIs_35 N N a0 a1 0 0 μ)) else none)) else none
-- X5_row
def J5_row_24 (N : Nat) (x1 : Int) (x2 : Int) (μ : mm) : Option (Int × mm) := if inR x2 then (if x2 = 0 then (if 0 ≤ (μ 0 9) ∧ (μ 0 9) < 16 then (bnd (mu μ 6 ((μ 0 9)).toNat x1) fun (μ5 : mm) => bnd (mu μ5 0 9 ((μ5 0 9) + 1)) fun (μ6 : mm) => some ((μ6 0 9), μ6)) else none) else ((M5_no N x2 μ).bind fun (q7 : (Int × mm)) => some (q7.1, q7.2))) else none
def M5_row (N : Nat) (a0 : Int) (μ : mm) : Option (Int × mm) := (M5_wrongBy N a0 0 99 μ).bind fun (q1 : Int) => if inR q1 then (if q1 = 0 then (if inR (μ 0 9) then (if (μ 0 9) = 16 then (J5_row_24 N a0 (-6) μ) else (J5_row_24 N a0 q1 μ)) else none) else (J5_row_24 N a0 q1 μ)) else none
-- X5_judge
def L5_judge_12 (N : Nat) : Nat → Int → Int → mm → Option (Int × mm)
  | 0, _, _, _ => none
  | k + 1, x1, x2, μ => if inR x2 ∧ inR x1 then (if x1 ≤ x2 then (some ((-9), μ)) else ((M5_isOne N x2 μ).bind fun (q4 : Int) => if inR q4 then (if q4 = 0 then (some (x2, μ)) else (if 0 ≤ ((4 + (6 * x2)) + 3) ∧ ((4 + (6 * x2)) + 3) < 52 then (if 0 ≤ x2 ∧ x2 < 16 then (if inR (μ 1 (((4 + (6 * x2)) + 3)).toNat) ∧ inR (μ 6 (x2).toNat) then (if (μ 1 (((4 + (6 * x2)) + 3)).toNat) = (μ 6 (x2).toNat) then (L5_judge_12 N k x1 (x2 + 1) μ) else (some (x2, μ))) else none) else none) else none)) else none)) else none
def M5_judge (N : Nat)  (μ : mm) : Option (Int × mm) := bnd (μ 0 9) fun (w1 : Int) => bnd (mu μ 0 9 0) fun (μ2 : mm) => L5_judge_12 N N w1 0 μ2
-- X5_clear
def M5_clear (N : Nat)  (μ : mm) : Option (Int × mm) := bnd (μ 0 9) fun (w1 : Int) => bnd (mu μ 0 9 0) fun (μ2 : mm) => some (w1, μ2)
-- X5_drawn
def M5_drawn (N : Nat) (a0 : Int) (μ : mm) : Option (Int × mm) := bnd (mu μ 0 12 (((μ 0 12) * 1664525) + 1013904223)) fun (μ1 : mm) => if 0 ≤ ((μ1 0 12) % 2147483648) ∧ inR ((μ1 0 12) % 2147483648) then (if 0 ≤ (((μ1 0 12) % 2147483648) / 256) ∧ 0 < a0 ∧ inR (((μ1 0 12) % 2147483648) / 256) ∧ inR a0 then (some (((((μ1 0 12) % 2147483648) / 256) % a0), μ1)) else none) else none
-- X5_lots
def J5_lots_146 (N : Nat) (rec52 : Int → Int → Int → Int → mm → Option (Int × mm)) (x1 : Int) (x3 : Int) (x5 : Int) (y0 : Int) (y2 : Int) (y3 : Int) (μ : mm) : Option (Int × mm) := (M5_allOf N 1 y0 μ).bind fun (q13 : Int) => bnd (y3 + (y2 - q13)) fun (w14 : Int) => rec52 x1 x3 w14 (x5 + 1) μ
def J5_lots_130 (N : Nat) (rec52 : Int → Int → Int → Int → mm → Option (Int × mm)) (x1 : Int) (x3 : Int) (x5 : Int) (y0 : Int) (y2 : Int) (μ : mm) : Option (Int × mm) := (M5_allOf N 2 y0 μ).bind fun (q11 : Int) => if inR x3 then (if x3 = 0 then (J5_lots_146 N rec52 x1 x3 x5 4 q11 y2 μ) else (J5_lots_146 N rec52 x1 x3 x5 5 q11 y2 μ)) else none
def L5_lots_72 (N : Nat) (rec52 : Int → Int → Int → Int → mm → Option (Int × mm)) : Nat → Int → Int → Int → Int → Int → mm → Option (Int × mm)
  | 0, _, _, _, _, _, _ => none
  | k + 1, x1, x3, x4, x5, x6, μ => if inR x6 ∧ inR (μ 1 0) then (if (μ 1 0) ≤ x6 then ((M5_daysOn N 2 20 μ).bind fun (q9 : mm) => if inR x3 then (if x3 = 0 then (J5_lots_130 N rec52 x1 x3 x5 4 x4 q9) else (J5_lots_130 N rec52 x1 x3 x5 5 x4 q9)) else none) else ((M5_drawn N 30 μ).bind fun (q17 : (Int × mm)) => if 0 ≤ ((4 + (6 * x6)) + 2) ∧ ((4 + (6 * x6)) + 2) < 52 then (bnd (mu q17.2 2 (((4 + (6 * x6)) + 2)).toNat q17.1) fun (μ19 : mm) => L5_lots_72 N rec52 k x1 x3 x4 x5 (x6 + 1) μ19) else none)) else none
def L5_lots_52 (N : Nat) : Nat → Int → Int → Int → Int → mm → Option (Int × mm)
  | 0, _, _, _, _, _ => none
  | k + 1, x1, x3, x4, x5, μ => if inR x5 ∧ inR x1 then (if x1 ≤ x5 then (some (x4, μ)) else ((M5_copies N 1 2 μ).bind fun (q7 : mm) => L5_lots_72 N (L5_lots_52 N k) N x1 x3 x4 x5 0 q7)) else none
def M5_lots (N : Nat) (a0 : Int) (a1 : Int) (a2 : Int) (μ : mm) : Option (Int × mm) := if inR a0 then (if 1 ≤ a0 then (if inR a0 then (if a0 ≤ 20 then ((M5_isIn N a2 0 1 μ).bind fun (q3 : Int) => if inR q3 then (if q3 = 0 then ((M5_no N (-2) μ).bind fun (q22 : (Int × mm)) => some (q22.1, q22.2)) else (bnd (mu μ 0 12 a1) fun (μ5 : mm) => L5_lots_52 N N a0 a2 0 0 μ5)) else none) else ((M5_no N (-6) μ).bind fun (q24 : (Int × mm)) => some (q24.1, q24.2))) else none) else ((M5_no N (-4) μ).bind fun (q26 : (Int × mm)) => some (q26.1, q26.2))) else none
-- X5_image
def M5_image (N : Nat)  (μ : mm) : Option (Int × mm) := (M5_copies N 1 3 μ).bind fun (q1 : mm) => bnd (mu q1 0 4 1) fun (μ2 : mm) => some ((μ2 1 1), μ2)
-- X5_on
def M5_on (N : Nat)  (μ : mm) : Option (Int × mm) := if inR (μ 0 4) then (if (μ 0 4) = 0 then ((M5_no N (-3) μ).bind fun (q3 : (Int × mm)) => some (q3.1, q3.2)) else ((M5_copies N 3 1 μ).bind fun (q2 : mm) => some ((q2 1 1), q2))) else none
-- X5_count
def J5_count_119 (N : Nat) (rec90 : Int → Int → mm → Option Int) (x3 : Int) (y0 : Int) (y1 : Int) (μ : mm) : Option Int := bnd (y1 + y0) fun (w17 : Int) => rec90 w17 (x3 + 1) μ
def L5_count_90 (N : Nat) : Nat → Int → Int → mm → Option Int
  | 0, _, _, _ => none
  | k + 1, x2, x3, μ => if inR x3 ∧ inR (μ 1 0) then (if (μ 1 0) ≤ x3 then (some x2) else (if 0 ≤ ((4 + (6 * x3)) + 3) ∧ ((4 + (6 * x3)) + 3) < 52 then (if inR (μ 1 (((4 + (6 * x3)) + 3)).toNat) then (if (μ 1 (((4 + (6 * x3)) + 3)).toNat) ≤ 0 then (J5_count_119 N (L5_count_90 N k) x3 0 x2 μ) else (J5_count_119 N (L5_count_90 N k) x3 1 x2 μ)) else none) else none)) else none
def M5_count (N : Nat) (a0 : Int) (μ0 : mm) : Option Int := (M5_isIn N a0 11 16 μ0).bind fun (q1 : Int) => if inR q1 then (if q1 = 0 then (if inR a0 then (if a0 = 0 then (if 0 ≤ a0 ∧ a0 < 52 then (some (μ0 1 (a0).toNat)) else none) else (if a0 = 1 then (if 0 ≤ a0 ∧ a0 < 52 then (some (μ0 1 (a0).toNat)) else none) else (if a0 = 2 then (if 0 ≤ a0 ∧ a0 < 52 then (some (μ0 1 (a0).toNat)) else none) else (if a0 = 3 then (if 0 ≤ a0 ∧ a0 < 52 then (some (μ0 1 (a0).toNat)) else none) else (if a0 = 4 then ((M5_allOf N 1 2 μ0).bind fun (q12 : Int) => some q12) else (if a0 = 5 then (L5_count_90 N N 0 0 μ0) else (if a0 = 6 then (some (μ0 0 9)) else (if a0 = 7 then (some (μ0 0 8)) else (some (-9)))))))))) else none) else (if 0 ≤ (a0 - 10) ∧ (a0 - 10) < 7 then (some (μ0 7 ((a0 - 10)).toNat)) else none)) else none
end
section
/-! THE PURE PART, first: what the kinds of people need, wear, wait; a person's day -/
def needsZ (k f : Int) : Int := if k = 1 then f + 5 else if k = 2 then 2 * (f + 1) else if k = 3 then (f + 1) / 2 else if k = 4 then f + 15 else if k = 5 then 1 else f + 1
def wearsZ (k f : Int) : Int := if k = 2 then needsZ k f else if k = 3 then 1 else if k = 4 then needsZ k f / 3 else if k = 5 then 0 else needsZ k f / 2
def nextZ (k : Int) : Int := if k = 1 then 1 else if k = 2 then 30 else if k = 4 then 0 else if k = 5 then 8 else 7
theorem needsZ_in {k f : Int} (hf : 0 ≤ f ∧ f ≤ 9) : 0 ≤ needsZ k f ∧ needsZ k f ≤ 24 := by
  unfold needsZ
  repeat' split
  all_goals omega
theorem wearsZ_in {k f : Int} (hf : 0 ≤ f ∧ f ≤ 9) : 0 ≤ wearsZ k f ∧ wearsZ k f ≤ 24 := by
  have h := needsZ_in (k := k) hf
  unfold wearsZ
  repeat' split
  all_goals omega
theorem nextZ_in {k : Int} : 0 ≤ nextZ k ∧ nextZ k ≤ 30 := by
  unfold nextZ
  repeat' split
  all_goals omega
theorem ix0 (p : Nat) : ((4 + (6 * (p : Int))) + 0).toNat = 4 + 6 * p + 0 := by omega
theorem ix1 (p : Nat) : ((4 + (6 * (p : Int))) + 1).toNat = 4 + 6 * p + 1 := by omega
theorem ix2 (p : Nat) : ((4 + (6 * (p : Int))) + 2).toNat = 4 + 6 * p + 2 := by omega
theorem ix3 (p : Nat) : ((4 + (6 * (p : Int))) + 3).toNat = 4 + 6 * p + 3 := by omega
theorem ix4 (p : Nat) : ((4 + (6 * (p : Int))) + 4).toNat = 4 + 6 * p + 4 := by omega
theorem ix5 (p : Nat) : ((4 + (6 * (p : Int))) + 5).toNat = 4 + 6 * p + 5 := by omega
theorem ixg {p : Nat} (hp : p < 8) {k : Int} (hk : 0 ≤ k ∧ k ≤ 5) : 0 ≤ ((4 + (6 * (p : Int))) + k) ∧ ((4 + (6 * (p : Int))) + k) < 52 := by omega
/-- row r holds the person q at place p -/
def at6 (μ : mm) (r p : Nat) (q : Nat → Int) : Prop := ∀ k, k < 6 → μ r (4 + 6 * p + k) = q k
/-- .. is made to hold -/
def putP (μ : mm) (r p : Nat) (q : Nat → Int) : mm := fun a b => if a = r ∧ 4 + 6 * p ≤ b ∧ b < 10 + 6 * p then q (b - (4 + 6 * p)) else μ a b
def fu (q : Nat → Int) (k : Nat) (v : Int) : Nat → Int := fun b => if b = k then v else q b
theorem fu_s {q : Nat → Int} {k : Nat} {v : Int} : fu q k v k = v := if_pos rfl
theorem fu_n {q : Nat → Int} {k j : Nat} {v : Int} (h : j ≠ k) : fu q k v j = q j := if_neg h
theorem putP_of {μ : mm} {r p : Nat} {q : Nat → Int} (h : at6 μ r p q) : putP μ r p q = μ := by
  funext a b
  unfold putP
  split
  · rename_i c
    obtain ⟨rfl, c1, c2⟩ := c
    rw [← h (b - (4 + 6 * p)) (by omega)]
    congr 1
    omega
  · rfl
theorem putP_at {μ : mm} {r p : Nat} {q : Nat → Int} : at6 (putP μ r p q) r p q := by
  intro k hk
  unfold putP
  rw [if_pos ⟨rfl, by omega, by omega⟩]
  congr 1
  omega
theorem putP_lo {μ : mm} {r p j : Nat} {q : Nat → Int} (h : j < 4) : putP μ r p q r j = μ r j := by
  unfold putP
  rw [if_neg (by omega)]
theorem putP_c {μ : mm} {r p a b : Nat} {q : Nat → Int} (h : a ≠ r) : putP μ r p q a b = μ a b := by
  unfold putP
  rw [if_neg (by omega)]
theorem putP_ne {μ : mm} {r p p' : Nat} {q q' : Nat → Int} (h : at6 μ r p' q') (hn : p' ≠ p) : at6 (putP μ r p q) r p' q' := by
  intro k hk
  unfold putP
  rw [if_neg (by omega)]
  exact h k hk
theorem putP_mu {μ : mm} {r p k : Nat} {q : Nat → Int} {v : Int} (hk : k < 6) : mu (putP μ r p q) r (4 + 6 * p + k) v = putP μ r p (fu q k v) := by
  funext a b
  unfold mu putP fu
  by_cases c : a = r ∧ b = 4 + 6 * p + k
  · rw [if_pos c, if_pos (by omega), if_pos (by omega)]
  · rw [if_neg c]
    by_cases d : a = r ∧ 4 + 6 * p ≤ b ∧ b < 10 + 6 * p
    · rw [if_pos d, if_pos d, if_neg (by omega)]
    · rw [if_neg d, if_neg d]
theorem putP_mlo {μ : mm} {r p j : Nat} {q : Nat → Int} {v : Int} (hj : j < 4) : mu (putP μ r p q) r j v = putP (mu μ r j v) r p q := by
  funext a b
  simp only [mu, putP]
  by_cases c : a = r ∧ b = j
  · rw [if_pos c, if_neg (by omega), if_pos c]
  · rw [if_neg c, if_neg c]
theorem putP_putP {μ : mm} {r p : Nat} {q q' : Nat → Int} : putP (putP μ r p q) r p q' = putP μ r p q' := by
  funext a b
  unfold putP
  split <;> rfl
theorem putP_congr {μ : mm} {r p : Nat} {q q' : Nat → Int} (h : ∀ k, k < 6 → q k = q' k) : putP μ r p q = putP μ r p q' := by
  funext a b
  unfold putP
  split
  · exact h _ (by omega)
  · rfl
/-- a person as he must be -/
def okP (q : Nat → Int) : Prop := (0 ≤ q 0 ∧ q 0 ≤ 5) ∧ (0 ≤ q 1 ∧ q 1 ≤ 9) ∧ (0 ≤ q 2 ∧ q 2 ≤ 99) ∧ (0 ≤ q 3 ∧ q 3 ≤ 60) ∧ (0 ≤ q 4 ∧ q 4 ≤ 999) ∧ (0 ≤ q 5 ∧ q 5 ≤ 999)
/-- how many grains are gone as his matter comes -/
def goneP (q : Nat → Int) : Int := if needsZ (q 0) (q 1) ≤ q 2 then min (wearsZ (q 0) (q 1)) (q 2) else 0
def meetP (q : Nat → Int) : Nat → Int := fun k => if k = 2 then q 2 - goneP q else if k = 3 then nextZ (q 0) else if k = 4 then (if needsZ (q 0) (q 1) ≤ q 2 then min 999 (q 4 + 1) else q 4) else if k = 5 then (if needsZ (q 0) (q 1) ≤ q 2 then q 5 else min 999 (q 5 + 1)) else q k
def dayP (q : Nat → Int) : Nat → Int := if q 3 = 0 then q else if q 3 = 1 then meetP q else fu q 3 (q 3 - 1)
def dgone (q : Nat → Int) : Int := if q 3 = 1 then goneP q else 0
theorem goneP_in {q : Nat → Int} (h : okP q) : 0 ≤ goneP q ∧ goneP q ≤ q 2 := by
  obtain ⟨h0, h1, h2, -⟩ := h
  have a := wearsZ_in (k := q 0) h1
  unfold goneP
  split <;> omega
theorem meetP_ok {q : Nat → Int} (h : okP q) : okP (meetP q) := by
  have hg := goneP_in h
  have hn := nextZ_in (k := q 0)
  obtain ⟨h0, h1, h2, h3, h4, h5⟩ := h
  refine ⟨h0, h1, ?_, ?_, ?_, ?_⟩
  · show 0 ≤ q 2 - goneP q ∧ q 2 - goneP q ≤ 99; omega
  · show 0 ≤ nextZ (q 0) ∧ nextZ (q 0) ≤ 60; omega
  · show 0 ≤ (if needsZ (q 0) (q 1) ≤ q 2 then min 999 (q 4 + 1) else q 4) ∧ (if needsZ (q 0) (q 1) ≤ q 2 then min 999 (q 4 + 1) else q 4) ≤ 999
    split <;> omega
  · show 0 ≤ (if needsZ (q 0) (q 1) ≤ q 2 then q 5 else min 999 (q 5 + 1)) ∧ (if needsZ (q 0) (q 1) ≤ q 2 then q 5 else min 999 (q 5 + 1)) ≤ 999
    split <;> omega
theorem dayP_ok {q : Nat → Int} (h : okP q) : okP (dayP q) := by
  unfold dayP
  split
  · exact h
  · split
    · exact meetP_ok h
    · obtain ⟨h0, h1, h2, h3, h4, h5⟩ := h
      exact ⟨h0, h1, h2, by show 0 ≤ q 3 - 1 ∧ q 3 - 1 ≤ 60; omega, h4, h5⟩
theorem dgone_in {q : Nat → Int} (h : okP q) : 0 ≤ dgone q ∧ dgone q ≤ 99 := by
  have a := goneP_in h
  obtain ⟨h0, h1, h2, -⟩ := h
  unfold dgone
  split <;> omega
/-! the reference's kinds and day -/
theorem M5_least_eq (N : Nat) {a b : Int} (ha : inR a) (hb : inR b) (μ : mm) : M5_least N a b μ = some (min a b) := by
  unfold M5_least
  rw [if_pos ⟨ha, hb⟩]
  split
  · rw [Int.min_eq_right (by omega)]
  · rw [Int.min_eq_left (by omega)]
theorem M5_needs_eq (N r p : Nat) (μ : mm) {q : Nat → Int} (hp : p < 8) (h6 : at6 μ r p q) (h : okP q) : M5_needs N r (p : Int) μ = some (needsZ (q 0) (q 1)) := by
  obtain ⟨h0, h1, -⟩ := h
  unfold M5_needs bnd
  simp only [ix0, ix1, h6 0 (by decide), h6 1 (by decide)]
  rw [if_pos (ixg hp (by decide)), if_pos (ixg hp (by decide)), if_pos (by omega), if_pos (show 0 ≤ q 1 + 1 ∧ inR (q 1 + 1) from by omega)]
  unfold needsZ
  repeat' split
  all_goals first | rfl | omega
theorem M5_wears_eq (N r p : Nat) (μ : mm) {q : Nat → Int} (hp : p < 8) (h6 : at6 μ r p q) (h : okP q) : M5_wears N r (p : Int) μ = some (wearsZ (q 0) (q 1)) := by
  have hn := needsZ_in (k := q 0) h.2.1
  unfold M5_wears
  rw [M5_needs_eq N r p μ hp h6 h]
  obtain ⟨h0, h1, -⟩ := h
  simp only [ix0, h6 0 (by decide), Option.bind_some]
  rw [if_pos (ixg hp (by decide)), if_pos (by omega)]
  unfold wearsZ
  rw [if_pos (show 0 ≤ needsZ (q 0) (q 1) ∧ inR (needsZ (q 0) (q 1)) from by omega), if_pos (show 0 ≤ needsZ (q 0) (q 1) ∧ inR (needsZ (q 0) (q 1)) from by omega)]
  repeat' split
  all_goals first | rfl | omega
theorem M5_nextBy_eq (N : Nat) (k : Int) (h : 0 ≤ k ∧ k ≤ 5) (μ : mm) : M5_nextBy N k μ = some (nextZ k) := by
  unfold M5_nextBy nextZ
  rw [if_pos (by omega)]
  repeat' split
  all_goals first | rfl | omega
theorem M5_lacksIn_eq (N r p : Nat) (μ : mm) {q : Nat → Int} (hp : p < 8) (h6 : at6 μ r p q) (h : okP q) : M5_lacksIn N r (p : Int) μ = some (if q 3 = 0 then 0 else max 0 (needsZ (q 0) (q 1) - q 2)) := by
  have hn := needsZ_in (k := q 0) h.2.1
  simp only [M5_lacksIn, bnd]
  rw [M5_needs_eq N r p μ hp h6 h]
  obtain ⟨h0, h1, h2, h3, -⟩ := h
  simp only [ix2, ix3, h6 2 (by decide), h6 3 (by decide), Option.bind_some]
  rw [if_pos (ixg hp (by decide)), if_pos (ixg hp (by decide)), if_pos (show inR (q 3) from by omega), if_pos (show inR (needsZ (q 0) (q 1) - q 2) from by omega)]
  by_cases c : q 3 = 0
  · rw [if_pos c, if_pos c]
  · rw [if_neg c, if_neg c]
    split
    · rw [Int.max_eq_right (by omega)]
    · rw [Int.max_eq_left (by omega)]
theorem M5_isGone_eq (N r : Nat) (v : Int) (μ : mm) (hw : 0 ≤ μ r 3 ∧ μ r 3 ≤ 9999) (hv : 0 ≤ v ∧ v ≤ 2000) : M5_isGone N r v μ = some (mu μ r 3 (min 9999 (μ r 3 + v))) := by
  unfold M5_isGone bnd
  rw [M5_least_eq N (by omega) (by omega)]
  rfl
theorem M5_meets_eq (N r p : Nat) (μ : mm) {q : Nat → Int} (hp : p < 8) (h6 : at6 μ r p q) (h : okP q) (hw : 0 ≤ μ r 3 ∧ μ r 3 ≤ 9999) : M5_meets N r (p : Int) μ = some (putP (mu μ r 3 (min 9999 (μ r 3 + goneP q))) r p (meetP q)) := by
  have hn := needsZ_in (k := q 0) h.2.1
  have hwr := wearsZ_in (k := q 0) h.2.1
  have hg := goneP_in h
  have hk := h.1
  have e0 : J5_meets_88 N r (p : Int) = fun μ => if 0 ≤ ((4 + (6 * (p : Int))) + 0) ∧ ((4 + (6 * (p : Int))) + 0) < 52 then ((M5_nextBy N (μ r (((4 + (6 * (p : Int))) + 0)).toNat) μ).bind fun (q12 : Int) => if 0 ≤ ((4 + (6 * (p : Int))) + 3) ∧ ((4 + (6 * (p : Int))) + 3) < 52 then (bnd (mu μ r (((4 + (6 * (p : Int))) + 3)).toNat q12) fun (μ14 : mm) => some μ14) else none) else none := rfl
  unfold M5_meets
  rw [if_pos (ixg hp (by decide)), M5_needs_eq N r p μ hp h6 h, Option.bind_some]
  rw [ix2, h6 2 (by decide)]
  obtain ⟨h0, h1, h2, h3, h4, h5⟩ := id h
  rw [if_pos (by omega)]
  by_cases c : q 2 < needsZ (q 0) (q 1)
  · rw [if_pos c]
    unfold J5_meets_20
    rw [if_pos (by decide), if_pos rfl]
    simp only [J5_meets_31, bnd]
    rw [ix5, if_pos (ixg hp (by decide)), h6 5 (by decide), M5_least_eq N (by omega) (by omega), Option.bind_some, if_pos (ixg hp (by decide)), if_pos (by decide), if_pos trivial]
    rw [← putP_of h6, putP_mu (by decide)]
    simp only [e0, ix0, ix3, bnd]
    rw [if_pos (ixg hp (by decide)), putP_at 0 (by decide), fu_n (by decide), M5_nextBy_eq N _ hk, Option.bind_some, if_pos (ixg hp (by decide)), putP_mu (by decide)]
    have hg0 : goneP q = 0 := if_neg (by omega)
    rw [hg0, putP_lo (by decide), Int.add_zero, Int.min_eq_right (show μ r 3 ≤ 9999 from hw.2), putP_of h6]
    rw [show mu μ r 3 (μ r 3) = μ from by funext a b; unfold mu; split <;> simp_all]
    congr 1
    apply putP_congr
    intro k hk6
    unfold meetP fu
    rw [hg0]
    repeat' split
    all_goals first | rfl | omega | (subst_vars; rfl) | (subst_vars; omega)
  · rw [if_neg c]
    unfold J5_meets_20
    rw [if_pos (by decide), if_neg (by decide)]
    simp only [J5_meets_31, bnd]
    rw [ix4, if_pos (ixg hp (by decide)), h6 4 (by decide), M5_least_eq N (by omega) (by omega), Option.bind_some, if_pos (ixg hp (by decide)), if_pos (by decide), if_neg (by decide)]
    rw [← putP_of h6, putP_mu (by decide)]
    have hok2 : okP (fu q 4 (min 999 (q 4 + 1))) := ⟨h0, h1, h2, h3, by show 0 ≤ min 999 (q 4 + 1) ∧ min 999 (q 4 + 1) ≤ 999; omega, h5⟩
    rw [M5_wears_eq N r p _ hp putP_at hok2, Option.bind_some, if_pos (ixg hp (by decide)), ix2, putP_at 2 (by decide)]
    rw [show fu q 4 (min 999 (q 4 + 1)) 0 = q 0 from rfl, show fu q 4 (min 999 (q 4 + 1)) 1 = q 1 from rfl, show fu q 4 (min 999 (q 4 + 1)) 2 = q 2 from rfl]
    rw [M5_least_eq N (by omega) (by omega), Option.bind_some, if_pos (ixg hp (by decide)), if_pos (ixg hp (by decide)), putP_mu (by decide)]
    have hg1 : goneP q = min (wearsZ (q 0) (q 1)) (q 2) := if_pos (by omega)
    rw [← hg1, M5_isGone_eq N r _ _ (by rw [putP_lo (by decide)]; exact hw) (by omega), Option.bind_some, putP_lo (by decide), putP_mlo (by decide)]
    simp only [e0, ix0, ix3, bnd]
    rw [if_pos (ixg hp (by decide)), putP_at 0 (by decide), fu_n (by decide), fu_n (by decide), M5_nextBy_eq N _ hk, Option.bind_some, if_pos (ixg hp (by decide)), putP_mu (by decide), putP_of h6]
    congr 1
    apply putP_congr
    intro k hk6
    unfold meetP fu
    repeat' split
    all_goals first | rfl | omega | (subst_vars; rfl) | (subst_vars; omega)
end
section
/-! a day of the reference's row -/
def pq (μ : mm) (r p : Nat) : Nat → Int := fun k => μ r (4 + 6 * p + k)
theorem pq_at (μ : mm) (r p : Nat) : at6 μ r p (pq μ r p) := fun _ _ => rfl
/-- a row as it must be -/
def okR (μ : mm) (r : Nat) : Prop := (0 ≤ μ r 0 ∧ μ r 0 ≤ 8) ∧ (0 ≤ μ r 1 ∧ μ r 1 ≤ 1000000) ∧ (0 ≤ μ r 2 ∧ μ r 2 ≤ 999) ∧ (0 ≤ μ r 3 ∧ μ r 3 ≤ 9999) ∧ ∀ p : Nat, (p : Int) < μ r 0 → okP (pq μ r p)
def wornU (μ : mm) (r : Nat) : Nat → Int
  | 0 => μ r 3
  | p + 1 => min 9999 (wornU μ r p + dgone (pq μ r p))
/-- the first n people's day -/
def dayN (r n : Nat) (μ : mm) : mm := fun a b => if a = r then (if b = 1 then μ r 1 + 1 else if b = 3 then wornU μ r n else if 4 ≤ b ∧ b < 4 + 6 * n then dayP (pq μ r ((b - 4) / 6)) ((b - 4) % 6) else μ r b) else μ a b
theorem wornU_in {μ : mm} {r : Nat} (h : okR μ r) : ∀ n : Nat, (n : Int) ≤ μ r 0 → 0 ≤ wornU μ r n ∧ wornU μ r n ≤ 9999 := by
  intro n
  induction n with
  | zero => intro _; exact h.2.2.2.1
  | succ n ih =>
    intro hn
    have a := ih (by omega)
    have b := dgone_in (h.2.2.2.2 n (by omega))
    show 0 ≤ min 9999 (wornU μ r n + dgone (pq μ r n)) ∧ min 9999 (wornU μ r n + dgone (pq μ r n)) ≤ 9999
    omega
theorem dayN_0 (r : Nat) (μ : mm) : dayN r 0 μ = mu μ r 1 (μ r 1 + 1) := by
  funext a b
  unfold dayN mu
  by_cases c : a = r
  · subst c
    by_cases d : b = 1
    · subst d; simp
    · by_cases e : b = 3
      · subst e; simp [wornU]
      · rw [if_pos rfl, if_neg d, if_neg e, if_neg (by omega), if_neg (by omega)]
  · rw [if_neg c, if_neg (by omega)]
theorem dayN_at {r n p : Nat} {μ : mm} (h : p < n) : at6 (dayN r n μ) r p (dayP (pq μ r p)) := by
  intro k hk
  unfold dayN
  rw [if_pos rfl, if_neg (by omega), if_neg (by omega), if_pos (by omega), show (4 + 6 * p + k - 4) / 6 = p by omega, show (4 + 6 * p + k - 4) % 6 = k by omega]
theorem dayN_hi {r n p : Nat} {μ : mm} (h : n ≤ p) : at6 (dayN r n μ) r p (pq μ r p) := by
  intro k hk
  unfold dayN
  rw [if_pos rfl, if_neg (by omega), if_neg (by omega), if_neg (by omega)]
  rfl
theorem dayN_many {r n : Nat} {μ : mm} : dayN r n μ r 0 = μ r 0 := by
  unfold dayN
  rw [if_pos rfl, if_neg (by omega), if_neg (by omega), if_neg (by omega)]
theorem dayN_day {r n : Nat} {μ : mm} : dayN r n μ r 1 = μ r 1 + 1 := by
  unfold dayN
  rw [if_pos rfl, if_pos rfl]
theorem dayN_store {r n : Nat} {μ : mm} : dayN r n μ r 2 = μ r 2 := by
  unfold dayN
  rw [if_pos rfl, if_neg (by omega), if_neg (by omega), if_neg (by omega)]
theorem dayN_worn {r n : Nat} {μ : mm} : dayN r n μ r 3 = wornU μ r n := by
  unfold dayN
  rw [if_pos rfl, if_neg (by omega), if_pos rfl]
theorem dayN_c {r n a b : Nat} {μ : mm} (h : a ≠ r) : dayN r n μ a b = μ a b := if_neg h
theorem dayN_step (r p : Nat) (μ : mm) : putP (mu (dayN r p μ) r 3 (min 9999 (wornU μ r p + dgone (pq μ r p)))) r p (dayP (pq μ r p)) = dayN r (p + 1) μ := by
  funext a b
  by_cases c : a = r
  · subst c
    by_cases d : 4 + 6 * p ≤ b ∧ b < 10 + 6 * p
    · unfold putP
      rw [if_pos ⟨rfl, d⟩]
      unfold dayN
      rw [if_pos rfl, if_neg (by omega), if_neg (by omega), if_pos (by omega), show (b - 4) / 6 = p by omega]
      congr 1
      omega
    · unfold putP
      rw [if_neg (by omega)]
      unfold mu
      by_cases e : b = 3
      · subst e
        rw [if_pos ⟨rfl, rfl⟩, dayN_worn]
        rfl
      · rw [if_neg (by omega)]
        unfold dayN
        by_cases f : b = 1
        · rw [if_pos rfl, if_pos f, if_pos rfl, if_pos f]
        · rw [if_pos rfl, if_neg f, if_neg e, if_pos rfl, if_neg f, if_neg e]
          by_cases g : 4 ≤ b ∧ b < 4 + 6 * p
          · rw [if_pos g, if_pos (by omega)]
          · rw [if_neg g, if_neg (by omega)]
  · unfold putP
    rw [if_neg (by omega)]
    unfold mu
    rw [if_neg (by omega), dayN_c c, dayN_c c]
theorem M5_day_loop (N r : Nat) {μ : mm} (h : okR μ r) : ∀ (k p : Nat), (p : Int) ≤ μ r 0 → μ r 0 < (p : Int) + k → L5_day_9 N k r (p : Int) (dayN r p μ) = some (dayN r (μ r 0).toNat μ) := by
  intro k
  induction k with
  | zero => intro p h1 h2; omega
  | succ k ih =>
    intro p h1 h2
    obtain ⟨hm, -, -, -, hP⟩ := id h
    rw [L5_day_9, dayN_many, if_pos (by omega)]
    by_cases c : μ r 0 ≤ (p : Int)
    · rw [if_pos c, show p = (μ r 0).toNat by omega]
    · rw [if_neg c]
      have hp : p < 8 := by omega
      have h6 : at6 (dayN r p μ) r p (pq μ r p) := dayN_hi (Nat.le_refl p)
      have hq := hP p (by omega)
      have hw := wornU_in h p h1
      have hnext : J5_day_55 N (L5_day_9 N k) r (p : Int) (dayN r (p + 1) μ) = some (dayN r (μ r 0).toNat μ) := by
        unfold J5_day_55
        exact ih (p + 1) (by omega) (by omega)
      rw [if_pos (ixg hp (by decide)), ix3, h6 3 (by decide)]
      obtain ⟨h0, h1', h2', h3, h4, h5⟩ := id hq
      rw [if_pos (by omega)]
      by_cases c0 : pq μ r p 3 = 0
      · rw [if_pos c0]
        rw [← dayN_step, show dgone (pq μ r p) = 0 from if_neg (by omega), show dayP (pq μ r p) = pq μ r p from if_pos c0, Int.add_zero, Int.min_eq_right (show wornU μ r p ≤ 9999 from hw.2), ← dayN_worn (n := p), show mu (dayN r p μ) r 3 (dayN r p μ r 3) = dayN r p μ from by funext a b; unfold mu; split <;> simp_all, putP_of h6] at hnext
        exact hnext
      · rw [if_neg c0, if_pos (ixg hp (by decide)), if_pos (ixg hp (by decide))]
        simp only [bnd]
        rw [if_pos (ixg hp (by decide)), ← putP_of h6, putP_mu (by decide), putP_at 3 (by decide), fu_s, if_pos (by omega)]
        by_cases c1 : pq μ r p 3 - 1 = 0
        · rw [if_pos c1]
          have hok : okP (fu (pq μ r p) 3 (pq μ r p 3 - 1)) := ⟨h0, h1', h2', by show 0 ≤ pq μ r p 3 - 1 ∧ pq μ r p 3 - 1 ≤ 60; omega, h4, h5⟩
          rw [M5_meets_eq N r p _ hp putP_at hok (by rw [putP_lo (by decide), dayN_worn]; exact hw), Option.bind_some, putP_lo (by decide), dayN_worn, putP_mlo (by decide), putP_putP]
          have e1 : goneP (fu (pq μ r p) 3 (pq μ r p 3 - 1)) = dgone (pq μ r p) := (if_pos (by omega)).symm
          have e2 : putP (mu (dayN r p μ) r 3 (min 9999 (wornU μ r p + dgone (pq μ r p)))) r p (meetP (fu (pq μ r p) 3 (pq μ r p 3 - 1))) = dayN r (p + 1) μ := by
            rw [← dayN_step]
            apply putP_congr
            intro k hk6
            rw [show dayP (pq μ r p) = meetP (pq μ r p) from by unfold dayP; rw [if_neg c0, if_pos (by omega)]]
            unfold meetP
            rw [e1, show dgone (pq μ r p) = goneP (pq μ r p) from if_pos (by omega)]
            by_cases k3 : k = 3
            · subst k3; rfl
            · rw [show fu (pq μ r p) 3 (pq μ r p 3 - 1) k = pq μ r p k from fu_n k3]; rfl
          rw [e1, e2]
          exact hnext
        · rw [if_neg c1]
          have e2 : putP (dayN r p μ) r p (fu (pq μ r p) 3 (pq μ r p 3 - 1)) = dayN r (p + 1) μ := by
            rw [← dayN_step, show dgone (pq μ r p) = 0 from if_neg (by omega), show dayP (pq μ r p) = fu (pq μ r p) 3 (pq μ r p 3 - 1) from by unfold dayP; rw [if_neg c0, if_neg (by omega)], Int.add_zero, Int.min_eq_right (show wornU μ r p ≤ 9999 from hw.2), ← dayN_worn (n := p), show mu (dayN r p μ) r 3 (dayN r p μ r 3) = dayN r p μ from by funext a b; unfold mu; split <;> simp_all]
          rw [e2]
          exact hnext
/-- a day of row r -/
def dayR (r : Nat) (μ : mm) : mm := dayN r (μ r 0).toNat μ
theorem M5_day_eq (N r : Nat) {μ : mm} (hN : 9 ≤ N) (h : okR μ r) : M5_day N r μ = some (dayR r μ) := by
  unfold M5_day bnd
  rw [← dayN_0]
  have := M5_day_loop N r h N 0 (by have := h.1; omega) (by have := h.1; omega)
  exact this
theorem dayR_ok {r : Nat} {μ : mm} (h : okR μ r) (hd : μ r 1 < 1000000) : okR (dayR r μ) r := by
  obtain ⟨hm, h1, h2, h3, hP⟩ := id h
  have hw := wornU_in h (μ r 0).toNat (by omega)
  unfold dayR
  refine ⟨by rw [dayN_many]; exact hm, by rw [dayN_day]; omega, by rw [dayN_store]; exact h2, by rw [dayN_worn]; exact hw, fun p hp => ?_⟩
  rw [dayN_many] at hp
  have h6 := dayN_at (r := r) (μ := μ) (show p < (μ r 0).toNat by omega)
  have hk := dayP_ok (hP p hp)
  have e : ∀ k, k < 6 → pq (dayN r (μ r 0).toNat μ) r p k = dayP (pq μ r p) k := h6
  unfold okP at hk ⊢
  rw [e 0 (by decide), e 1 (by decide), e 2 (by decide), e 3 (by decide), e 4 (by decide), e 5 (by decide)]
  exact hk
end
section
/-! days of a row, copies, sums -/
def days (r : Nat) : Nat → mm → mm
  | 0, μ => μ
  | n + 1, μ => dayR r (days r n μ)
def dayI : Nat → (Nat → Int) → (Nat → Int)
  | 0, q => q
  | n + 1, q => dayP (dayI n q)
theorem dayI_ok {q : Nat → Int} (h : okP q) : ∀ n, okP (dayI n q) := by
  intro n
  induction n with
  | zero => exact h
  | succ n ih => exact dayP_ok ih
theorem dayR_c {r a b : Nat} {μ : mm} (h : a ≠ r) : dayR r μ a b = μ a b := dayN_c h
theorem days_c {r a b : Nat} {μ : mm} (h : a ≠ r) : ∀ n, days r n μ a b = μ a b := by
  intro n
  induction n with
  | zero => rfl
  | succ n ih => exact (dayR_c h).trans ih
theorem days_many (r : Nat) (μ : mm) : ∀ n, days r n μ r 0 = μ r 0 := by
  intro n
  induction n with
  | zero => rfl
  | succ n ih => exact dayN_many.trans ih
theorem days_day (r : Nat) (μ : mm) : ∀ n : Nat, days r n μ r 1 = μ r 1 + (n : Int) := by
  intro n
  induction n with
  | zero => simp [days]
  | succ n ih =>
    show dayN r _ (days r n μ) r 1 = _
    rw [dayN_day, ih]
    omega
theorem days_store (r : Nat) (μ : mm) : ∀ n, days r n μ r 2 = μ r 2 := by
  intro n
  induction n with
  | zero => rfl
  | succ n ih => exact dayN_store.trans ih
theorem days_ok {r : Nat} {μ : mm} (h : okR μ r) : ∀ n : Nat, μ r 1 + (n : Int) ≤ 1000000 → okR (days r n μ) r := by
  intro n
  induction n with
  | zero => intro _; exact h
  | succ n ih =>
    intro hn
    exact dayR_ok (ih (by omega)) (by rw [days_day]; omega)
theorem dayP_congr {q q' : Nat → Int} (h : ∀ k, k < 6 → q k = q' k) : ∀ k, k < 6 → dayP q k = dayP q' k := by
  intro k hk
  have g : goneP q = goneP q' := by unfold goneP; rw [h 0 (by decide), h 1 (by decide), h 2 (by decide)]
  unfold dayP
  rw [h 3 (by decide)]
  by_cases a : q' 3 = 0
  · rw [if_pos a, if_pos a]; exact h k hk
  · rw [if_neg a, if_neg a]
    by_cases b : q' 3 = 1
    · rw [if_pos b, if_pos b]
      unfold meetP
      rw [g, h 0 (by decide), h 1 (by decide), h 2 (by decide), h 4 (by decide), h 5 (by decide), h k hk]
    · rw [if_neg b, if_neg b]
      unfold fu
      rw [h k hk]
theorem dayR_at {r p : Nat} {μ : mm} {q : Nat → Int} (hp : (p : Int) < μ r 0) (h6 : at6 μ r p q) : at6 (dayR r μ) r p (dayP q) := by
  intro k hk
  have a := dayN_at (r := r) (μ := μ) (show p < (μ r 0).toNat by omega) k hk
  exact a.trans (dayP_congr (fun k hk => h6 k hk) k hk)
theorem days_at {r p : Nat} {μ : mm} {q : Nat → Int} (hp : (p : Int) < μ r 0) (h6 : at6 μ r p q) : ∀ n, at6 (days r n μ) r p (dayI n q) := by
  intro n
  induction n with
  | zero => exact h6
  | succ n ih => exact dayR_at (by rw [days_many]; exact hp) ih
theorem days_add (r : Nat) (μ : mm) (m : Nat) : ∀ n, days r n (days r m μ) = days r (m + n) μ := by
  intro n
  induction n with
  | zero => rfl
  | succ n ih => show dayR r (days r n (days r m μ)) = dayR r (days r (m + n) μ); rw [ih]
theorem M5_daysOn_loop (N r : Nat) {μ : mm} (hN : 9 ≤ N) (h : okR μ r) (n : Nat) (hn : μ r 1 + (n : Int) ≤ 1000000) : ∀ (k i : Nat), i ≤ n → n < i + k → L5_daysOn_2 N k r (n : Int) (i : Int) (days r i μ) = some (days r n μ) := by
  intro k
  have hd := h.2.1
  induction k with
  | zero => intro i h1 h2; omega
  | succ k ih =>
    intro i h1 h2
    rw [L5_daysOn_2, if_pos (by omega)]
    by_cases c : (n : Int) ≤ (i : Int)
    · rw [if_pos c, show i = n by omega]
    · rw [if_neg c, M5_day_eq N r hN (days_ok h i (by omega)), Option.bind_some]
      exact ih (i + 1) (by omega) (by omega)
theorem M5_daysOn_eq (N r : Nat) {μ : mm} (hN : 9 ≤ N) (h : okR μ r) (n : Nat) (hn : μ r 1 + (n : Int) ≤ 1000000) (hnN : n < N) : M5_daysOn N r (n : Int) μ = some (days r n μ) :=
  M5_daysOn_loop N r hN h n hn N 0 (Nat.zero_le _) (by omega)
/-- row b becomes row a -/
def cp (a b : Nat) (μ : mm) : mm := fun x y => if x = b ∧ y < 52 then μ a y else μ x y
def cpN (a b n : Nat) (μ : mm) : mm := fun x y => if x = b ∧ y < n then μ a y else μ x y
theorem cpN_step {a b n : Nat} {μ : mm} (hab : a ≠ b) : mu (cpN a b n μ) b n (cpN a b n μ a n) = cpN a b (n + 1) μ := by
  have e : cpN a b n μ a n = μ a n := if_neg (by omega)
  rw [e]
  funext x y
  unfold mu cpN
  by_cases c : x = b ∧ y = n
  · rw [if_pos c, if_pos (by omega), c.2]
  · rw [if_neg c]
    by_cases d : x = b ∧ y < n
    · rw [if_pos d, if_pos (by omega)]
    · rw [if_neg d, if_neg (by omega)]
theorem M5_copies_loop (N a b : Nat) {μ : mm} (hab : a ≠ b) : ∀ (k i : Nat), i ≤ 52 → 52 < i + k → L5_copies_2 N k a b (i : Int) (cpN a b i μ) = some (cp a b μ) := by
  intro k
  induction k with
  | zero => intro i h1 h2; omega
  | succ k ih =>
    intro i h1 h2
    rw [L5_copies_2, if_pos (by omega)]
    by_cases c : 52 ≤ (i : Int)
    · rw [if_pos c, show i = 52 by omega]; rfl
    · rw [if_neg c, if_pos (by omega), if_pos (by omega)]
      simp only [bnd, Int.toNat_natCast]
      rw [cpN_step hab]
      exact ih (i + 1) (by omega) (by omega)
theorem M5_copies_eq (N a b : Nat) {μ : mm} (hN : 53 ≤ N) (hab : a ≠ b) : M5_copies N a b μ = some (cp a b μ) := by
  have := M5_copies_loop N a b (μ := μ) hab N 0 (by omega) (by omega)
  rw [show cpN a b 0 μ = μ from by funext x y; exact if_neg (by omega)] at this
  exact this
theorem cp_to {a b j : Nat} {μ : mm} (h : j < 52) : cp a b μ b j = μ a j := if_pos ⟨rfl, h⟩
theorem cp_c {a b x j : Nat} {μ : mm} (h : x ≠ b) : cp a b μ x j = μ x j := if_neg (by omega)
theorem cp_at {a b p : Nat} {μ : mm} {q : Nat → Int} (hp : p < 8) (h : at6 μ a p q) : at6 (cp a b μ) b p q := fun k hk => (cp_to (by omega)).trans (h k hk)
theorem cp_ok {a b : Nat} {μ : mm} (h : okR μ a) : okR (cp a b μ) b := by
  obtain ⟨h0, h1, h2, h3, hP⟩ := h
  refine ⟨by rw [cp_to (by decide)]; exact h0, by rw [cp_to (by decide)]; exact h1, by rw [cp_to (by decide)]; exact h2, by rw [cp_to (by decide)]; exact h3, fun p hp => ?_⟩
  rw [cp_to (by decide)] at hp
  have hk := hP p hp
  have e : ∀ k, k < 6 → pq (cp a b μ) b p k = pq μ a p k := cp_at (by omega) (pq_at μ a p)
  unfold okP at hk ⊢
  rw [e 0 (by decide), e 1 (by decide), e 2 (by decide), e 3 (by decide), e 4 (by decide), e 5 (by decide)]
  exact hk
/-- f 0 + .. + f (n - 1) -/
def sumN (f : Nat → Int) : Nat → Int
  | 0 => 0
  | n + 1 => sumN f n + f n
theorem sumN_congr {f g : Nat → Int} : ∀ n, (∀ i, i < n → f i = g i) → sumN f n = sumN g n := by
  intro n
  induction n with
  | zero => intro _; rfl
  | succ n ih => intro h; show sumN f n + f n = sumN g n + g n; rw [ih (fun i hi => h i (by omega)), h n (by omega)]
theorem M5_allOf_loop (N r w : Nat) (hw : w ≤ 5) {μ : mm} (hm : 0 ≤ μ r 0 ∧ μ r 0 ≤ 8) : ∀ (k p : Nat), (p : Int) ≤ μ r 0 → μ r 0 < (p : Int) + k → L5_allOf_4 N k r (w : Int) (sumN (fun p => μ r (4 + 6 * p + w)) p) (p : Int) μ = some (sumN (fun p => μ r (4 + 6 * p + w)) (μ r 0).toNat) := by
  intro k
  induction k with
  | zero => intro p h1 h2; omega
  | succ k ih =>
    intro p h1 h2
    rw [L5_allOf_4, if_pos (by omega)]
    by_cases c : μ r 0 ≤ (p : Int)
    · rw [if_pos c, show p = (μ r 0).toNat by omega]
    · rw [if_neg c, if_pos (by omega)]
      simp only [bnd]
      rw [show ((4 + 6 * (p : Int)) + (w : Int)).toNat = 4 + 6 * p + w by omega]
      exact ih (p + 1) (by omega) (by omega)
theorem M5_allOf_eq (N r w : Nat) (hw : w ≤ 5) {μ : mm} (hN : 9 ≤ N) (hm : 0 ≤ μ r 0 ∧ μ r 0 ≤ 8) : M5_allOf N r (w : Int) μ = some (sumN (fun p => μ r (4 + 6 * p + w)) (μ r 0).toNat) := M5_allOf_loop N r w hw hm N 0 (by omega) (by omega)
end
section
/-! class and reference side by side: office o tells what row r tells -/
def relO (o r : Nat) (μ : mm) : Prop := μ o 2 = μ r 0 ∧ μ o 3 = μ r 2 ∧ μ o 4 = μ r 3 ∧ μ o 5 = μ r 1 ∧ ∀ p : Nat, (p : Int) < μ r 0 → at6 μ r p (μ (o + 2 + p))
def relT (μ : mm) : Prop := μ 44 1 = μ 0 8 ∧ (0 ≤ μ 0 8 ∧ μ 0 8 ≤ 96) ∧ ∀ j : Nat, (j : Int) < μ 0 8 → μ 45 j = μ 5 j ∧ 0 ≤ μ 5 j ∧ μ 5 j ≤ 255
def relW (μ : mm) : Prop := μ 9 9 = μ 0 9 ∧ (0 ≤ μ 0 9 ∧ μ 0 9 ≤ 16) ∧ ∀ j : Nat, (j : Int) < μ 0 9 → μ 46 j = μ 6 j ∧ 0 ≤ μ 6 j ∧ μ 6 j ≤ 99
def relF (μ : mm) : Prop := ∀ j : Nat, 1 ≤ j → j ≤ 6 → μ 47 j = μ 7 j
def relI (μ : mm) : Prop := μ 9 10 = μ 0 4 ∧ (μ 0 4 = 0 ∨ (μ 0 4 = 1 ∧ relO 32 3 μ ∧ okR μ 3 ∧ μ 3 1 ≤ 999))
def relN (μ : mm) : Prop := ∀ k, k < 6 → μ 20 k = 0 ∧ μ 31 k = 0 ∧ μ 42 k = 0
def Rel (μ : mm) : Prop := (relO 10 1 μ ∧ okR μ 1 ∧ μ 1 1 ≤ 999) ∧ relI μ ∧ relT μ ∧ relW μ ∧ relF μ ∧ relN μ
/-- one call of both: the answers are one, and they tell the same behind it -/
def Op (f g : mm → Option (Int × mm)) (μ : mm) : Prop := ∃ (r : Int) (μ1 μ2 : mm), f μ = some (r, μ1) ∧ g μ1 = some (r, μ2) ∧ Rel μ2
theorem relO_congr {o r : Nat} {μ ν : mm} (h : relO o r μ) (ho : ν o = μ o) (hr : ν r = μ r) (hp : ∀ p, p < 8 → ν (o + 2 + p) = μ (o + 2 + p)) (hm : μ r 0 ≤ 8) : relO o r ν := by
  obtain ⟨h1, h2, h3, h4, h5⟩ := h
  refine ⟨by rw [ho, hr]; exact h1, by rw [ho, hr]; exact h2, by rw [ho, hr]; exact h3, by rw [ho, hr]; exact h4, fun p hpm => ?_⟩
  rw [hr] at hpm
  intro k hk
  rw [hr, hp p (by omega)]
  exact h5 p hpm k hk
theorem okR_congr {r : Nat} {μ ν : mm} (h : okR μ r) (hr : ν r = μ r) : okR ν r := by
  unfold okR pq at h ⊢
  rw [hr]
  exact h
/-- cells that only scratch work uses: the reference's m, was, numbers; the class's mind, trial, its two rows -/
def scr (a : Nat) : Bool := a == 2 || a == 4 || a == 8 || a == 21 || a == 22 || (23 ≤ a && a ≤ 30) || a == 43 || a == 48 || a == 49
theorem Rel_scr {μ ν : mm} (h : Rel μ) (hc : ∀ a, scr a = false → a ≠ 0 → ν a = μ a) (h0 : ∀ j, j ≠ 10 → j ≠ 12 → ν 0 j = μ 0 j) : Rel ν := by
  obtain ⟨⟨a1, a2, a3⟩, ⟨b1, b2⟩, ⟨c1, c2, c3⟩, ⟨d1, d2, d3⟩, e, f⟩ := h
  have k1 : ν 1 = μ 1 := hc 1 (by decide) (by decide)
  have k3 : ν 3 = μ 3 := hc 3 (by decide) (by decide)
  have k5 : ν 5 = μ 5 := hc 5 (by decide) (by decide)
  have k6 : ν 6 = μ 6 := hc 6 (by decide) (by decide)
  have k7 : ν 7 = μ 7 := hc 7 (by decide) (by decide)
  have k9 : ν 9 = μ 9 := hc 9 (by decide) (by decide)
  have k44 : ν 44 = μ 44 := hc 44 (by decide) (by decide)
  have k45 : ν 45 = μ 45 := hc 45 (by decide) (by decide)
  have k46 : ν 46 = μ 46 := hc 46 (by decide) (by decide)
  have k47 : ν 47 = μ 47 := hc 47 (by decide) (by decide)
  have hpn : ∀ p, p < 8 → ν (10 + 2 + p) = μ (10 + 2 + p) := fun p hp => hc _ (by revert p; decide) (by omega)
  have hpi : ∀ p, p < 8 → ν (32 + 2 + p) = μ (32 + 2 + p) := fun p hp => hc _ (by revert p; decide) (by omega)
  refine ⟨⟨relO_congr a1 (hc 10 (by decide) (by decide)) k1 hpn a2.1.2, okR_congr a2 k1, by rw [k1]; exact a3⟩, ⟨by rw [k9, h0 4 (by decide) (by decide)]; exact b1, ?_⟩, ⟨by rw [k44, h0 8 (by decide) (by decide)]; exact c1, by rw [h0 8 (by decide) (by decide)]; exact c2, fun j hj => ?_⟩, ⟨by rw [k9, h0 9 (by decide) (by decide)]; exact d1, by rw [h0 9 (by decide) (by decide)]; exact d2, fun j hj => ?_⟩, fun j h1 h6 => ?_, fun k hk => ?_⟩
  · rw [h0 4 (by decide) (by decide)]
    rcases b2 with b | ⟨b, b3, b4, b5⟩
    · exact Or.inl b
    · exact Or.inr ⟨b, relO_congr b3 (hc 32 (by decide) (by decide)) k3 hpi b4.1.2, okR_congr b4 k3, by rw [k3]; exact b5⟩
  · rw [h0 8 (by decide) (by decide)] at hj
    rw [k45, k5]
    exact c3 j hj
  · rw [h0 9 (by decide) (by decide)] at hj
    rw [k46, k6]
    exact d3 j hj
  · rw [k47, k7]
    exact e j h1 h6
  · rw [hc 20 (by decide) (by decide), hc 31 (by decide) (by decide), hc 42 (by decide) (by decide)]
    exact f k hk
/-! leaves -/
def outZ (v a b : Int) : Int := if v < a then -4 else if b < v then -6 else 0
def othZ (w l : Int) : Int := if 0 ≤ w ∧ w ≤ l then 0 else -2
def unkZ (μ : mm) (p : Int) : Int := if 0 ≤ p ∧ p < μ 1 0 then 0 else -1
def fstZ (a b c : Int) : Int := if a = 0 then (if b = 0 then c else b) else a
theorem outZ_in (v a b : Int) : -6 ≤ outZ v a b ∧ outZ v a b ≤ 0 := by unfold outZ; repeat' split
                                                                       all_goals omega
theorem othZ_in (w l : Int) : -6 ≤ othZ w l ∧ othZ w l ≤ 0 := by unfold othZ; split <;> omega
theorem unkZ_in (μ : mm) (p : Int) : -6 ≤ unkZ μ p ∧ unkZ μ p ≤ 0 := by unfold unkZ; split <;> omega
theorem outZ_0 {v a b : Int} (h : outZ v a b = 0) : a ≤ v ∧ v ≤ b := by
  unfold outZ at h
  split at h
  · omega
  · split at h <;> omega
theorem othZ_0 {w l : Int} (h : othZ w l = 0) : 0 ≤ w ∧ w ≤ l := by
  unfold othZ at h
  split at h <;> omega
theorem unkZ_0 {μ : mm} {p : Int} (h : unkZ μ p = 0) : 0 ≤ p ∧ p < μ 1 0 := by
  unfold unkZ at h
  split at h <;> omega
theorem fstZ_in {a b c : Int} (ha : -6 ≤ a ∧ a ≤ 0) (hb : -6 ≤ b ∧ b ≤ 0) (hc : -6 ≤ c ∧ c ≤ 0) : -6 ≤ fstZ a b c ∧ fstZ a b c ≤ 0 := by
  unfold fstZ
  repeat' split
  all_goals omega
theorem M4_outside_eq (N : Nat) {v a b : Int} (hv : inR v) (ha : inR a) (hb : inR b) (μ : mm) : M4_outside N v a b μ = some (outZ v a b) := by
  unfold M4_outside outZ
  rw [if_pos (show inR v ∧ inR a from ⟨hv, ha⟩), if_pos (show inR v ∧ inR b from ⟨hv, hb⟩)]
  repeat' split
  all_goals first | rfl | omega
theorem M5_wrongBy_eq (N : Nat) {v a b : Int} (hv : inR v) (ha : inR a) (hb : inR b) (μ : mm) : M5_wrongBy N v a b μ = some (outZ v a b) := by
  unfold M5_wrongBy outZ
  rw [if_pos (show inR v ∧ inR a from ⟨hv, ha⟩), if_pos (show inR v ∧ inR b from ⟨hv, hb⟩)]
  repeat' split
  all_goals first | rfl | omega
theorem M5_isIn_eq (N : Nat) {v a b : Int} (hv : inR v) (ha : inR a) (hb : inR b) (μ : mm) : M5_isIn N v a b μ = some (if a ≤ v ∧ v ≤ b then 1 else 0) := by
  unfold M5_isIn
  rw [if_pos (show inR v ∧ inR a from ⟨hv, ha⟩), if_pos (show inR v ∧ inR b from ⟨hv, hb⟩)]
  repeat' split
  all_goals first | rfl | omega
theorem M4_other_eq (N : Nat) {w l : Int} (hw : inR w) (hl : inR l) (μ : mm) : M4_other N w l μ = some (othZ w l) := by
  unfold M4_other othZ
  rw [if_pos (show inR w from hw), if_pos (show inR w ∧ inR l from ⟨hw, hl⟩)]
  repeat' split
  all_goals first | rfl | omega
theorem M4_firstOf_eq (N : Nat) {a b c : Int} (ha : -6 ≤ a ∧ a ≤ 0) (hb : -6 ≤ b ∧ b ≤ 0) (μ : mm) : M4_firstOf N a b c μ = some (fstZ a b c) := by
  unfold M4_firstOf fstZ
  rw [if_pos (show inR a from by omega), if_pos (show inR b from by omega)]
  repeat' split
  all_goals rfl
theorem M1_knows_eq (N o : Nat) {p : Int} {μ : mm} (hp : inR p) (hm : 0 ≤ μ o 2 ∧ μ o 2 ≤ 8) : M1_knows N o p μ = some (if 0 ≤ p ∧ p < μ o 2 then 1 else 0) := by
  unfold M1_knows
  rw [if_pos hp, if_pos (show inR p ∧ inR (μ o 2) from by omega)]
  repeat' split
  all_goals first | rfl | omega
theorem M1_at_eq (N o p : Nat) (hp : p < 8) (μ : mm) : M1_at N o (p : Int) μ = some (o + 2 + p) := by
  unfold M1_at
  rw [if_pos (by omega), if_neg (by omega), if_pos (by omega), if_neg (by omega), if_pos (by omega)]
  rw [show (o + 1) + 1 + ((p : Int)).toNat = o + 2 + p by omega]
theorem M4_unknown_eq (N : Nat) {p : Int} {μ : mm} (hp : inR p) (h : relO 10 1 μ) (hk : okR μ 1) : M4_unknown N p μ = some (unkZ μ p) := by
  have hm := hk.1
  have e := h.1
  unfold M4_unknown unkZ
  rw [M1_knows_eq N 10 hp (by rw [e]; exact hm), e, Option.bind_some]
  by_cases c : 0 ≤ p ∧ p < μ 1 0
  · rw [if_pos c, if_pos c, if_pos (by decide), if_neg (by decide)]
  · rw [if_neg c, if_neg c, if_pos (by decide), if_pos rfl]
theorem M5_isOne_eq (N : Nat) {p : Int} {μ : mm} (hp : inR p) (hk : okR μ 1) : M5_isOne N p μ = some (if 0 ≤ p ∧ p < μ 1 0 then 1 else 0) := by
  have hm := hk.1
  unfold M5_isOne
  rw [M5_isIn_eq N hp (by decide) (by omega), Option.bind_some]
  by_cases c : 0 ≤ p ∧ p < μ 1 0
  · have c' : 0 ≤ p ∧ p ≤ μ 1 0 - 1 := by omega
    rw [if_pos c', if_pos c, if_pos (by decide)]
  · have c' : ¬ (0 ≤ p ∧ p ≤ μ 1 0 - 1) := by omega
    rw [if_neg c', if_neg c, if_pos (by decide)]
def r4 (c : Int) (μ : mm) : mm := mu μ 47 (-c).toNat (μ 47 (-c).toNat + 1)
def r5 (c : Int) (μ : mm) : mm := mu μ 7 (-c).toNat (μ 7 (-c).toNat + 1)
theorem M4_refused_eq (N : Nat) {c : Int} (hc : -6 ≤ c ∧ c ≤ 0) (μ : mm) : M4_refused N c μ = some (c, r4 c μ) := by
  simp only [M4_refused, bnd]
  rw [if_pos (by omega), if_neg (by omega), if_pos (by omega), if_neg (by omega), if_pos (by omega), if_pos (by omega)]
  rfl
theorem M5_no_eq (N : Nat) {c : Int} (hc : -6 ≤ c ∧ c ≤ 0) (μ : mm) : M5_no N c μ = some (c, r5 c μ) := by
  simp only [M5_no, bnd]
  rw [if_pos (by omega), if_pos (by omega)]
  rfl
theorem Rel_ref {μ : mm} (R : Rel μ) {c : Int} (hc : -6 ≤ c ∧ c ≤ -1) : Rel (r5 c (r4 c μ)) := by
  obtain ⟨⟨a1, a2, a3⟩, ⟨b1, b2⟩, c1, d1, e, f⟩ := R
  have h : ∀ a, a ≠ 7 → a ≠ 47 → r5 c (r4 c μ) a = μ a := by
    intro a h7 h47
    funext b
    unfold r5 r4
    rw [mu_c h7, mu_c h47]
  have hpn : ∀ p, p < 8 → r5 c (r4 c μ) (10 + 2 + p) = μ (10 + 2 + p) := fun p hp => h _ (by omega) (by omega)
  have hpi : ∀ p, p < 8 → r5 c (r4 c μ) (32 + 2 + p) = μ (32 + 2 + p) := fun p hp => h _ (by omega) (by omega)
  refine ⟨⟨relO_congr a1 (h 10 (by decide) (by decide)) (h 1 (by decide) (by decide)) hpn a2.1.2, okR_congr a2 (h 1 (by decide) (by decide)), by rw [h 1 (by decide) (by decide)]; exact a3⟩, ⟨by rw [h 9 (by decide) (by decide), h 0 (by decide) (by decide)]; exact b1, ?_⟩, ?_, ?_, ?_, ?_⟩
  · rw [h 0 (by decide) (by decide)]
    rcases b2 with b | ⟨b, b3, b4, b5⟩
    · exact Or.inl b
    · exact Or.inr ⟨b, relO_congr b3 (h 32 (by decide) (by decide)) (h 3 (by decide) (by decide)) hpi b4.1.2, okR_congr b4 (h 3 (by decide) (by decide)), by rw [h 3 (by decide) (by decide)]; exact b5⟩
  · unfold relT at c1 ⊢
    rw [h 44 (by decide) (by decide), h 0 (by decide) (by decide), h 45 (by decide) (by decide), h 5 (by decide) (by decide)]
    exact c1
  · unfold relW at d1 ⊢
    rw [h 9 (by decide) (by decide), h 0 (by decide) (by decide), h 46 (by decide) (by decide), h 6 (by decide) (by decide)]
    exact d1
  · intro j h1 h6
    have ej := e j h1 h6
    have ec := e (-c).toNat (by omega) (by omega)
    unfold r5 r4
    by_cases q : j = (-c).toNat
    · subst q
      rw [mu_s, mu_c (by decide), mu_s, mu_c (by decide), ec]
    · rw [mu_c (by decide), mu_j q, mu_j q, mu_c (by decide)]
      exact ej
  · unfold relN at f ⊢
    rw [h 20 (by decide) (by decide), h 31 (by decide) (by decide), h 42 (by decide) (by decide)]
    exact f
theorem Op_ref (N : Nat) {μ : mm} (R : Rel μ) {c : Int} (hc : -6 ≤ c ∧ c ≤ -1) {f g : mm → Option (Int × mm)} (hf : f μ = M4_refused N c μ) (hg : ∀ ν, ν = r4 c μ → g ν = M5_no N c ν) : Op f g μ :=
  ⟨c, r4 c μ, r5 c (r4 c μ), by rw [hf]; exact M4_refused_eq N (by omega) μ, by rw [hg _ rfl]; exact M5_no_eq N (by omega) _, Rel_ref R hc⟩
end
section
/-! the plain calls -/
theorem Rel_now {μ ν : mm} (R : Rel μ) (h : relO 10 1 ν ∧ okR ν 1 ∧ ν 1 1 ≤ 999) (hc : ∀ a, a ≠ 0 → a ≠ 1 → a ≠ 10 → (a < 12 ∨ 19 < a) → scr a = false → ν a = μ a) (h0 : ∀ j, j ≠ 10 → j ≠ 12 → ν 0 j = μ 0 j) : Rel ν := by
  obtain ⟨-, ⟨b1, b2⟩, ⟨c1, c2, c3⟩, ⟨d1, d2, d3⟩, e, f⟩ := R
  have k : ∀ a, a ≠ 0 → a ≠ 1 → a ≠ 10 → (a < 12 ∨ 19 < a) → scr a = false → ν a = μ a := hc
  have k3 := k 3 (by decide) (by decide) (by decide) (by decide) (by decide)
  have k5 := k 5 (by decide) (by decide) (by decide) (by decide) (by decide)
  have k6 := k 6 (by decide) (by decide) (by decide) (by decide) (by decide)
  have k7 := k 7 (by decide) (by decide) (by decide) (by decide) (by decide)
  have k9 := k 9 (by decide) (by decide) (by decide) (by decide) (by decide)
  have k44 := k 44 (by decide) (by decide) (by decide) (by decide) (by decide)
  have k45 := k 45 (by decide) (by decide) (by decide) (by decide) (by decide)
  have k46 := k 46 (by decide) (by decide) (by decide) (by decide) (by decide)
  have k47 := k 47 (by decide) (by decide) (by decide) (by decide) (by decide)
  have k32 := k 32 (by decide) (by decide) (by decide) (by decide) (by decide)
  have k20 := k 20 (by decide) (by decide) (by decide) (by decide) (by decide)
  have k31 := k 31 (by decide) (by decide) (by decide) (by decide) (by decide)
  have k42 := k 42 (by decide) (by decide) (by decide) (by decide) (by decide)
  have hpi : ∀ p, p < 8 → ν (32 + 2 + p) = μ (32 + 2 + p) := fun p hp => k _ (by omega) (by omega) (by omega) (by omega) (by revert p; decide)
  refine ⟨h, ⟨by rw [k9, h0 4 (by decide) (by decide)]; exact b1, ?_⟩, ⟨by rw [k44, h0 8 (by decide) (by decide)]; exact c1, by rw [h0 8 (by decide) (by decide)]; exact c2, fun j hj => ?_⟩, ⟨by rw [k9, h0 9 (by decide) (by decide)]; exact d1, by rw [h0 9 (by decide) (by decide)]; exact d2, fun j hj => ?_⟩, fun j h1 h6 => ?_, fun q hk => ?_⟩
  · rw [h0 4 (by decide) (by decide)]
    rcases b2 with b | ⟨b, b3, b4, b5⟩
    · exact Or.inl b
    · exact Or.inr ⟨b, relO_congr b3 k32 k3 hpi b4.1.2, okR_congr b4 k3, by rw [k3]; exact b5⟩
  · rw [h0 8 (by decide) (by decide)] at hj
    rw [k45, k5]
    exact c3 j hj
  · rw [h0 9 (by decide) (by decide)] at hj
    rw [k46, k6]
    exact d3 j hj
  · rw [k47, k7]
    exact e j h1 h6
  · rw [k20, k31, k42]
    exact f q hk
/-- one person, store and worn may change -/
theorem now_put {μ ν : mm} (R1 : relO 10 1 μ) (ok : okR μ 1) (hd : μ 1 1 ≤ 999) (p : Nat) (q : Nat → Int) (hq : okP q) (e1 : ∀ k, k < 6 → ν (12 + p) k = q k) (e2 : at6 ν 1 p q)
    (e3 : ∀ p', p' ≠ p → ∀ k, k < 6 → ν (12 + p') k = μ (12 + p') k ∧ ν 1 (4 + 6 * p' + k) = μ 1 (4 + 6 * p' + k)) (e4 : ν 1 0 = μ 1 0 ∧ ν 10 2 = μ 10 2) (e5 : ν 10 3 = ν 1 2 ∧ 0 ≤ ν 1 2 ∧ ν 1 2 ≤ 999) (e6 : ν 10 4 = ν 1 3 ∧ 0 ≤ ν 1 3 ∧ ν 1 3 ≤ 9999) (e7 : ν 10 5 = μ 10 5 ∧ ν 1 1 = μ 1 1) : relO 10 1 ν ∧ okR ν 1 ∧ ν 1 1 ≤ 999 := by
  obtain ⟨r1, r2, r3, r4, r5⟩ := R1
  obtain ⟨o1, o2, o3, o4, o5⟩ := ok
  refine ⟨⟨by rw [e4.1, e4.2]; exact r1, e5.1, e6.1, by rw [e7.1, e7.2]; exact r4, fun p' hp' => ?_⟩, ⟨by rw [e4.1]; exact o1, by rw [e7.2]; exact o2, e5.2, e6.2, fun p' hp' => ?_⟩, by rw [e7.2]; exact hd⟩
  · rw [e4.1] at hp'
    intro k hk
    show ν 1 (4 + 6 * p' + k) = ν (12 + p') k
    by_cases c : p' = p
    · subst c
      rw [e1 k hk]
      exact e2 k hk
    · rw [(e3 p' c k hk).1, (e3 p' c k hk).2]
      exact r5 p' hp' k hk
  · rw [e4.1] at hp'
    by_cases c : p' = p
    · subst c
      have e : ∀ k, k < 6 → pq ν 1 p' k = q k := e2
      unfold okP at hq ⊢
      rw [e 0 (by decide), e 1 (by decide), e 2 (by decide), e 3 (by decide), e 4 (by decide), e 5 (by decide)]
      exact hq
    · have hk := o5 p' hp'
      have e : ∀ k, k < 6 → pq ν 1 p' k = pq μ 1 p' k := fun k hk => (e3 p' c k hk).2
      unfold okP at hk ⊢
      rw [e 0 (by decide), e 1 (by decide), e 2 (by decide), e 3 (by decide), e 4 (by decide), e 5 (by decide)]
      exact hk
theorem kd12 {n : Nat} (h : n < 8) : kd (10 + 2 + n) = 5 := by
  have := kd_el (i := 11) (j := n) rfl h
  rwa [show 11 + 1 + n = 10 + 2 + n by omega] at this
/-- the person's fields, as the class holds them -/
theorem ok12 {μ : mm} (R1 : relO 10 1 μ) (ok : okR μ 1) {n : Nat} (h : (n : Int) < μ 1 0) : okP (μ (12 + n)) := by
  have hk := ok.2.2.2.2 n h
  have e : ∀ k, k < 6 → μ 1 (4 + 6 * n + k) = μ (10 + 2 + n) k := R1.2.2.2.2 n h
  have e' : ∀ k, k < 6 → pq μ 1 n k = μ (12 + n) k := e
  unfold okP at hk ⊢
  rw [← e' 0 (by decide), ← e' 1 (by decide), ← e' 2 (by decide), ← e' 3 (by decide), ← e' 4 (by decide), ← e' 5 (by decide)]
  exact hk
theorem op_due (N : Nat) {μ : mm} (R : Rel μ) {p v : Int} (hp : inR p) (hv : inR v) : Op (M4_due N p v) (M5_due N p v) μ := by
  obtain ⟨⟨a1, a2, a3⟩, rest⟩ := id R
  have hm := a2.1
  have hu := unkZ_in μ p
  have ho := outZ_in v 0 60
  have e4 : M4_due N p v μ = if fstZ (unkZ μ p) (outZ v 0 60) 0 = 0 then ((M1_at N 10 p μ).bind fun (q5 : Nat) => if kd q5 = 5 then some (μ q5 3, mu μ q5 3 v) else none) else M4_refused N (fstZ (unkZ μ p) (outZ v 0 60) 0) μ := by
    have hf := fstZ_in (c := 0) hu ho (by decide)
    simp only [M4_due, bnd]
    rw [M4_unknown_eq N hp a1 a2, Option.bind_some, M4_outside_eq N hv (by decide) (by decide), Option.bind_some, M4_firstOf_eq N hu ho, Option.bind_some, if_pos (show inR (fstZ (unkZ μ p) (outZ v 0 60) 0) from by omega), M4_refused_eq N (by omega)]
    rfl
  by_cases k : unkZ μ p = 0
  · have kk := unkZ_0 k
    obtain ⟨n, rfl⟩ := Int.eq_ofNat_of_zero_le kk.1
    have hn : n < 8 := by omega
    by_cases o : outZ v 0 60 = 0
    · have oo := outZ_0 o
      have f0 : fstZ (unkZ μ n) (outZ v 0 60) 0 = 0 := by unfold fstZ; rw [if_pos k, if_pos o]
      have hq := ok12 a1 a2 kk.2
      refine ⟨μ (12 + n) 3, mu μ (12 + n) 3 v, mu (mu μ (12 + n) 3 v) 1 (4 + 6 * n + 3) v, ?_, ?_, ?_⟩
      · rw [e4, if_pos f0, M1_at_eq N 10 n hn, Option.bind_some, if_pos (kd12 hn)]
      · have r1 : mu μ (12 + n) 3 v 1 = μ 1 := funext fun b => mu_c (by omega)
        have a2' : okR (mu μ (12 + n) 3 v) 1 := okR_congr a2 r1
        simp only [M5_due, J5_due_19, bnd]
        rw [M5_isOne_eq N hp a2', Option.bind_some, r1, if_pos kk, if_pos (by decide), if_neg (by decide), M5_wrongBy_eq N hv (by decide) (by decide), Option.bind_some, o, if_pos (by decide), if_pos rfl, if_pos (ixg hn (by decide)), if_pos (ixg hn (by decide)), ix3]
        rw [show μ 1 (4 + 6 * n + 3) = μ (12 + n) 3 from (a1.2.2.2.2 n kk.2 3 (by decide)).trans (by rw [show 10 + 2 + n = 12 + n by omega])]
      · refine Rel_now R (now_put a1 a2 a3 n (fu (μ (12 + n)) 3 v) ⟨hq.1, hq.2.1, hq.2.2.1, oo, hq.2.2.2.2⟩ ?_ ?_ ?_ ?_ ?_ ?_ ?_) ?_ ?_
        · intro k hk; unfold mu fu; repeat' split
          all_goals first | rfl | omega
        · intro k hk
          have := a1.2.2.2.2 n kk.2 k hk
          rw [show 10 + 2 + n = 12 + n by omega] at this
          unfold mu fu; repeat' split
          all_goals first | rfl | omega
        · intro p' hp' k hk
          constructor
          · unfold mu; repeat' split
            all_goals first | rfl | omega
          · unfold mu; repeat' split
            all_goals first | rfl | omega
        · constructor <;> (unfold mu; repeat' split) <;> first | rfl | omega
        · have := a2.2.2.1; have := a1.2.1; refine ⟨?_, ?_, ?_⟩ <;> (unfold mu; repeat' split) <;> omega
        · have := a2.2.2.2.1; have := a1.2.2.1; refine ⟨?_, ?_, ?_⟩ <;> (unfold mu; repeat' split) <;> omega
        · constructor <;> (unfold mu; repeat' split) <;> first | rfl | omega
        · intro a h0 h1 h10 h12 hs
          funext b
          rw [mu_c h1, mu_c (by omega)]
        · intro j _ _
          rw [mu_c (by decide), mu_c (by omega)]
    · refine Op_ref N R (c := outZ v 0 60) (by omega) ?_ ?_
      · have f0 : fstZ (unkZ μ n) (outZ v 0 60) 0 = outZ v 0 60 := by unfold fstZ; rw [if_pos k, if_neg o]
        rw [e4, f0, if_neg o]
      · intro ν hν
        have r1 : ν 1 = μ 1 := by rw [hν]; exact funext fun b => mu_c (by decide)
        simp only [M5_due, J5_due_19, bnd]
        rw [M5_isOne_eq N hp (okR_congr a2 r1), Option.bind_some, r1, if_pos kk, if_pos (by decide), if_neg (by decide), M5_wrongBy_eq N hv (by decide) (by decide), Option.bind_some, if_pos (show inR (outZ v 0 60) from by omega), if_neg o, M5_no_eq N (by omega)]
        rfl
  · have k1 : unkZ μ p = -1 := by unfold unkZ at k ⊢; split at k <;> simp_all
    refine Op_ref N R (c := -1) (by decide) ?_ ?_
    · have f0 : fstZ (unkZ μ p) (outZ v 0 60) 0 = -1 := by unfold fstZ; rw [if_neg k, k1]
      rw [e4, f0, if_neg (by decide)]
    · intro ν hν
      have r1 : ν 1 = μ 1 := by rw [hν]; exact funext fun b => mu_c (by decide)
      have kk : ¬ (0 ≤ p ∧ p < μ 1 0) := fun z => k (if_pos z)
      simp only [M5_due, J5_due_19, bnd]
      rw [M5_isOne_eq N hp (okR_congr a2 r1), Option.bind_some, r1, if_neg kk, if_pos (by decide), if_pos rfl, if_pos (by decide), if_neg (by decide), M5_no_eq N (by decide)]
      rfl
end
section
/-! what happens at a counter: office o (now or mind) and row 1 go the same way -/
theorem off_put {o : Nat} {μ ν : mm} (R1 : relO o 1 μ) (ok : okR μ 1) (hd : μ 1 1 ≤ 999) (p : Nat) (q : Nat → Int) (hq : okP q) (e1 : ∀ k, k < 6 → ν (o + 2 + p) k = q k) (e2 : at6 ν 1 p q)
    (e3 : ∀ p', p' ≠ p → ∀ k, k < 6 → ν (o + 2 + p') k = μ (o + 2 + p') k ∧ ν 1 (4 + 6 * p' + k) = μ 1 (4 + 6 * p' + k)) (e4 : ν 1 0 = μ 1 0 ∧ ν o 2 = μ o 2) (e5 : ν o 3 = ν 1 2 ∧ 0 ≤ ν 1 2 ∧ ν 1 2 ≤ 999) (e6 : ν o 4 = ν 1 3 ∧ 0 ≤ ν 1 3 ∧ ν 1 3 ≤ 9999) (e7 : ν o 5 = μ o 5 ∧ ν 1 1 = μ 1 1) : relO o 1 ν ∧ okR ν 1 ∧ ν 1 1 ≤ 999 := by
  obtain ⟨r1, r2, r3, r4, r5⟩ := R1
  obtain ⟨o1, o2, o3, o4, o5⟩ := ok
  refine ⟨⟨by rw [e4.1, e4.2]; exact r1, e5.1, e6.1, by rw [e7.1, e7.2]; exact r4, fun p' hp' => ?_⟩, ⟨by rw [e4.1]; exact o1, by rw [e7.2]; exact o2, e5.2, e6.2, fun p' hp' => ?_⟩, by rw [e7.2]; exact hd⟩
  · rw [e4.1] at hp'
    intro k hk
    by_cases c : p' = p
    · subst c
      rw [e1 k hk]
      exact e2 k hk
    · rw [(e3 p' c k hk).1, (e3 p' c k hk).2]
      exact r5 p' hp' k hk
  · rw [e4.1] at hp'
    by_cases c : p' = p
    · subst c
      have e : ∀ k, k < 6 → pq ν 1 p' k = q k := e2
      unfold okP at hq ⊢
      rw [e 0 (by decide), e 1 (by decide), e 2 (by decide), e 3 (by decide), e 4 (by decide), e 5 (by decide)]
      exact hq
    · have hk := o5 p' hp'
      have e : ∀ k, k < 6 → pq ν 1 p' k = pq μ 1 p' k := fun k hk => (e3 p' c k hk).2
      unfold okP at hk ⊢
      rw [e 0 (by decide), e 1 (by decide), e 2 (by decide), e 3 (by decide), e 4 (by decide), e 5 (by decide)]
      exact hk
theorem offP {o : Nat} {μ : mm} (R1 : relO o 1 μ) (ok : okR μ 1) {n : Nat} (h : (n : Int) < μ 1 0) : okP (μ (o + 2 + n)) := by
  have hk := ok.2.2.2.2 n h
  have e : ∀ k, k < 6 → pq μ 1 n k = μ (o + 2 + n) k := R1.2.2.2.2 n h
  unfold okP at hk ⊢
  rw [← e 0 (by decide), ← e 1 (by decide), ← e 2 (by decide), ← e 3 (by decide), ← e 4 (by decide), ← e 5 (by decide)]
  exact hk
theorem kdo {o n : Nat} (ho : o = 10 ∨ o = 21) (h : n < 8) : kd (o + 2 + n) = 5 := by
  rcases ho with rfl | rfl
  · have := kd_el (i := 11) (j := n) rfl h
    rwa [show 11 + 1 + n = 10 + 2 + n by omega] at this
  · have := kd_el (i := 22) (j := n) rfl h
    rwa [show 22 + 1 + n = 21 + 2 + n by omega] at this
/-- the cells that such a step may change: office o, its people, row 1 -/
def offF (o : Nat) (μ ν : mm) : Prop := ∀ a, a ≠ 1 → a ≠ o → (a < o + 2 ∨ o + 9 < a) → ν a = μ a
theorem M5_issuesIn_eq (N r n : Nat) (hn : n < 8) (v : Int) (μ : mm) : M5_issuesIn N r (n : Int) v μ = some (mu (mu μ r 2 (μ r 2 - v)) r (4 + 6 * n + 2) (μ r (4 + 6 * n + 2) + v)) := by
  simp only [M5_issuesIn, bnd]
  rw [if_pos (ixg hn (by decide)), if_pos (ixg hn (by decide)), ix2, mu_j (show 4 + 6 * n + 2 ≠ 2 by omega)]
theorem off_issue (N : Nat) {o : Nat} (ho : o = 10 ∨ o = 21) {μ : mm} (R1 : relO o 1 μ) (ok : okR μ 1) (hd : μ 1 1 ≤ 999) {p v : Int} (hp : inR p) (hv : 0 ≤ v ∧ v ≤ 99) :
    (¬ (0 ≤ p ∧ p < μ 1 0 ∧ v ≤ μ 1 2 ∧ μ 1 (4 + 6 * p.toNat + 2) + v ≤ 99) ∧ M1_issue N o p v μ = some (0, μ)) ∨
    ((0 ≤ p ∧ p < μ 1 0 ∧ v ≤ μ 1 2 ∧ μ 1 (4 + 6 * p.toNat + 2) + v ≤ 99) ∧ ∃ μ1 μ2 : mm, M1_issue N o p v μ = some (1, μ1) ∧ μ1 1 = μ 1 ∧ M5_issuesIn N 1 p v μ1 = some μ2 ∧ relO o 1 μ2 ∧ okR μ2 1 ∧ μ2 1 1 ≤ 999 ∧ μ1 o 3 = μ2 1 2 ∧ offF o μ μ1 ∧ offF o μ μ2) := by
  have hm := ok.1
  have h2 := ok.2.2.1
  have e0 := R1.1
  have e2 := R1.2.1
  have hk := M1_knows_eq N o (μ := μ) hp (by omega)
  by_cases k : 0 ≤ p ∧ p < μ 1 0
  · obtain ⟨n, rfl⟩ := Int.eq_ofNat_of_zero_le k.1
    have hn : n < 8 := by omega
    have hq := offP R1 ok k.2
    have hf := R1.2.2.2.2 n k.2
    rw [Int.toNat_natCast, hf 2 (by decide)]
    rw [if_pos (by omega)] at hk
    by_cases c : v ≤ μ 1 2 ∧ μ (o + 2 + n) 2 + v ≤ 99
    · refine Or.inr ⟨⟨k.1, k.2, c.1, c.2⟩, mu (mu μ (o + 2 + n) 2 (μ (o + 2 + n) 2 + v)) o 3 (μ o 3 - v), mu (mu (mu (mu μ (o + 2 + n) 2 (μ (o + 2 + n) 2 + v)) o 3 (μ o 3 - v)) 1 2 (μ 1 2 - v)) 1 (4 + 6 * n + 2) (μ 1 (4 + 6 * n + 2) + v), ?_, ?_, ?_, ?_⟩
      · simp only [M1_issue, bnd]
        rw [hk, Option.bind_some, if_pos (by decide), if_neg (by decide), if_pos (by omega), if_neg (by omega), M1_at_eq N o n hn, Option.bind_some, if_pos (kdo ho hn), if_pos (by have := hq.2.2.1; omega), if_pos (by omega), Option.bind_some, if_pos (kdo ho hn), mu_c (show o ≠ o + 2 + n by omega)]
      · funext b; rw [mu_c (by omega), mu_c (by omega)]
      · rw [M5_issuesIn_eq N 1 n hn]
        rw [show (mu (mu μ (o + 2 + n) 2 (μ (o + 2 + n) 2 + v)) o 3 (μ o 3 - v)) 1 = μ 1 from by funext b; rw [mu_c (by omega), mu_c (by omega)]]
      · have ee := off_put (ν := mu (mu (mu (mu μ (o + 2 + n) 2 (μ (o + 2 + n) 2 + v)) o 3 (μ o 3 - v)) 1 2 (μ 1 2 - v)) 1 (4 + 6 * n + 2) (μ 1 (4 + 6 * n + 2) + v)) R1 ok hd n (fu (μ (o + 2 + n)) 2 (μ (o + 2 + n) 2 + v)) ⟨hq.1, hq.2.1, by show 0 ≤ μ (o + 2 + n) 2 + v ∧ μ (o + 2 + n) 2 + v ≤ 99; have := hq.2.2.1; omega, hq.2.2.2⟩ ?_ ?_ ?_ ?_ ?_ ?_ ?_
        · refine ⟨ee.1, ee.2.1, ee.2.2, ?_, ?_, ?_⟩
          · unfold mu; repeat' split
            all_goals omega
          · intro a h1 ho' hr
            funext b
            rw [mu_c ho', mu_c (by omega)]
          · intro a h1 ho' hr
            funext b
            rw [mu_c h1, mu_c h1, mu_c ho', mu_c (by omega)]
        · intro k hk; unfold mu fu; repeat' split
          all_goals first | rfl | omega
        · intro k hk
          have := hf k hk
          have := hf 2 (by decide)
          unfold mu fu; repeat' split
          all_goals first | rfl | omega
        · intro p' hp' k hk
          constructor
          · unfold mu; repeat' split
            all_goals first | rfl | omega
          · unfold mu; repeat' split
            all_goals first | rfl | omega
        · constructor <;> (unfold mu; repeat' split) <;> first | rfl | omega
        · refine ⟨?_, ?_, ?_⟩ <;> (unfold mu; repeat' split) <;> omega
        · have := ok.2.2.2.1; have := R1.2.2.1; refine ⟨?_, ?_, ?_⟩ <;> (unfold mu; repeat' split) <;> omega
        · constructor <;> (unfold mu; repeat' split) <;> first | rfl | omega
    · refine Or.inl ⟨fun z => c ⟨z.2.2.1, z.2.2.2⟩, ?_⟩
      simp only [M1_issue, bnd]
      rw [hk, Option.bind_some, if_pos (by decide), if_neg (by decide), if_pos (by omega)]
      by_cases c1 : μ o 3 < v
      · rw [if_pos c1]
      · rw [if_neg c1, M1_at_eq N o n hn, Option.bind_some, if_pos (kdo ho hn), if_pos (by have := hq.2.2.1; omega), if_neg (by omega)]
  · refine Or.inl ⟨fun z => k ⟨z.1, z.2.1⟩, ?_⟩
    rw [if_neg (by omega)] at hk
    simp only [M1_issue, bnd]
    rw [hk, Option.bind_some, if_pos (by decide), if_pos rfl]
/-- what handing in leaves -/
theorem M5_handsIn_eq (N r n : Nat) (hn : n < 8) (μ : mm) (h2 : 0 ≤ μ r 2 ∧ μ r 2 ≤ 999) (hh : 0 ≤ μ r (4 + 6 * n + 2) ∧ μ r (4 + 6 * n + 2) ≤ 99) (h3 : 0 ≤ μ r 3 ∧ μ r 3 ≤ 9999) : M5_handsIn N r (n : Int) μ = some (mu (mu (mu μ r (4 + 6 * n + 2) 0) r 2 (min 999 (μ r 2 + μ r (4 + 6 * n + 2)))) r 3 (min 9999 (μ r 3 + max 0 (μ r 2 + μ r (4 + 6 * n + 2) - 999)))) := by
  simp only [M5_handsIn, bnd]
  rw [if_pos (ixg hn (by decide)), if_pos (ixg hn (by decide)), ix2, M5_least_eq N (by decide) (by omega), Option.bind_some, if_pos (by omega)]
  by_cases c : μ r 2 + μ r (4 + 6 * n + 2) ≤ 999
  · rw [if_pos c]
    congr 1
    funext a b
    by_cases d : a = r ∧ b = 3
    · obtain ⟨rfl, rfl⟩ := d
      rw [mu_s, mu_j (by decide), mu_j (by omega)]
      omega
    · conv => rhs; unfold mu
      rw [if_neg d]
      unfold mu
      rfl
  · rw [if_neg c, M5_isGone_eq N r _ _ (by rw [mu_j (by decide), mu_j (by omega)]; exact h3) (by omega), Option.bind_some, mu_j (by decide), mu_j (by omega), Int.max_eq_right (by omega)]
end
section
theorem M1_wear_eq (N o : Nat) (v : Int) (μ : mm) (h : 0 ≤ μ o 4 ∧ μ o 4 ≤ 9999) (hv : 0 ≤ v ∧ v ≤ 2000) : M1_wear N o v μ = some (mu μ o 4 (min 9999 (μ o 4 + v))) := by
  simp only [M1_wear, bnd]
  rw [if_pos (by omega)]
  congr 2
  split <;> omega
theorem off_hand (N : Nat) {o : Nat} (ho : o = 10 ∨ o = 21) {μ : mm} (R1 : relO o 1 μ) (ok : okR μ 1) (hd : μ 1 1 ≤ 999) {p : Int} (hp : inR p) :
    (¬ (0 ≤ p ∧ p < μ 1 0) ∧ M1_handIn N o p μ = some (0, μ)) ∨
    ((0 ≤ p ∧ p < μ 1 0) ∧ ∃ μ1 μ2 : mm, M1_handIn N o p μ = some (1, μ1) ∧ μ1 1 = μ 1 ∧ M5_handsIn N 1 p μ1 = some μ2 ∧ relO o 1 μ2 ∧ okR μ2 1 ∧ μ2 1 1 ≤ 999 ∧ μ1 o 3 = μ2 1 2 ∧ offF o μ μ1 ∧ offF o μ μ2) := by
  have hm := ok.1
  have h2 := ok.2.2.1
  have h3 := ok.2.2.2.1
  have e0 := R1.1
  have e2 := R1.2.1
  have e3 := R1.2.2.1
  have hk := M1_knows_eq N o (μ := μ) hp (by omega)
  by_cases k : 0 ≤ p ∧ p < μ 1 0
  · obtain ⟨n, rfl⟩ := Int.eq_ofNat_of_zero_le k.1
    have hn : n < 8 := by omega
    have hq := offP R1 ok k.2
    have hf := R1.2.2.2.2 n k.2
    have hf2 := hf 2 (by decide)
    have hq2 := hq.2.2.1
    rw [if_pos (by omega)] at hk
    refine Or.inr ⟨k, mu (mu (mu μ (o + 2 + n) 2 0) o 3 (min 999 (μ o 3 + μ (o + 2 + n) 2))) o 4 (min 9999 (μ o 4 + (μ o 3 + μ (o + 2 + n) 2 - min 999 (μ o 3 + μ (o + 2 + n) 2)))), mu (mu (mu (mu (mu (mu μ (o + 2 + n) 2 0) o 3 (min 999 (μ o 3 + μ (o + 2 + n) 2))) o 4 (min 9999 (μ o 4 + (μ o 3 + μ (o + 2 + n) 2 - min 999 (μ o 3 + μ (o + 2 + n) 2))))) 1 (4 + 6 * n + 2) 0) 1 2 (min 999 (μ 1 2 + μ 1 (4 + 6 * n + 2)))) 1 3 (min 9999 (μ 1 3 + max 0 (μ 1 2 + μ 1 (4 + 6 * n + 2) - 999))), ?_, ?_, ?_, ?_⟩
    · simp only [M1_handIn, bnd]
      rw [hk, Option.bind_some, if_pos (by decide), if_neg (by decide), M1_at_eq N o n hn, Option.bind_some, if_pos (kdo ho hn), Option.bind_some, if_pos (kdo ho hn), if_pos (by omega), mu_s]
      rw [show (if 999 < μ o 3 + μ (o + 2 + n) 2 then 999 else μ o 3 + μ (o + 2 + n) 2) = min 999 (μ o 3 + μ (o + 2 + n) 2) by split <;> omega]
      rw [M1_wear_eq N o _ _ (by rw [mu_j (by decide), mu_c (by omega)]; omega) (by omega), Option.bind_some, mu_j (by decide), mu_c (show o ≠ o + 2 + n by omega)]
    · funext b; rw [mu_c (by omega), mu_c (by omega), mu_c (by omega)]
    · have er : (mu (mu (mu μ (o + 2 + n) 2 0) o 3 (min 999 (μ o 3 + μ (o + 2 + n) 2))) o 4 (min 9999 (μ o 4 + (μ o 3 + μ (o + 2 + n) 2 - min 999 (μ o 3 + μ (o + 2 + n) 2))))) 1 = μ 1 := by
        funext b; rw [mu_c (by omega), mu_c (by omega), mu_c (by omega)]
      rw [M5_handsIn_eq N 1 n hn _ (by rw [er]; exact h2) (by rw [er]; omega) (by rw [er]; exact h3), er]
    · have ee := off_put (ν := mu (mu (mu (mu (mu (mu μ (o + 2 + n) 2 0) o 3 (min 999 (μ o 3 + μ (o + 2 + n) 2))) o 4 (min 9999 (μ o 4 + (μ o 3 + μ (o + 2 + n) 2 - min 999 (μ o 3 + μ (o + 2 + n) 2))))) 1 (4 + 6 * n + 2) 0) 1 2 (min 999 (μ 1 2 + μ 1 (4 + 6 * n + 2)))) 1 3 (min 9999 (μ 1 3 + max 0 (μ 1 2 + μ 1 (4 + 6 * n + 2) - 999)))) R1 ok hd n (fu (μ (o + 2 + n)) 2 0) ⟨hq.1, hq.2.1, by show 0 ≤ (0 : Int) ∧ (0 : Int) ≤ 99; omega, hq.2.2.2⟩ ?_ ?_ ?_ ?_ ?_ ?_ ?_
      · refine ⟨ee.1, ee.2.1, ee.2.2, ?_, ?_, ?_⟩
        · rw [mu_j (show 3 ≠ 4 by decide), mu_s, mu_j (show 2 ≠ 3 by decide), mu_s]
          omega
        · intro a h1 ho' hr
          funext b
          rw [mu_c ho', mu_c ho', mu_c (by omega)]
        · intro a h1 ho' hr
          funext b
          rw [mu_c h1, mu_c h1, mu_c h1, mu_c ho', mu_c ho', mu_c (by omega)]
      · intro k hk; unfold mu fu; repeat' split
        all_goals first | rfl | omega
      · intro k hk
        have := hf k hk
        unfold mu fu; repeat' split
        all_goals first | rfl | omega
      · intro p' hp' k hk
        constructor
        · unfold mu; repeat' split
          all_goals first | rfl | omega
        · unfold mu; repeat' split
          all_goals first | rfl | omega
      · constructor <;> (unfold mu; repeat' split) <;> first | rfl | omega
      · rw [mu_c (show o ≠ 1 by omega), mu_c (show o ≠ 1 by omega), mu_c (show o ≠ 1 by omega), mu_j (show 3 ≠ 4 by decide), mu_s, mu_j (show 2 ≠ 3 by decide), mu_s]
        omega
      · rw [mu_c (show o ≠ 1 by omega), mu_c (show o ≠ 1 by omega), mu_c (show o ≠ 1 by omega), mu_s, mu_s]
        omega
      · constructor <;> (unfold mu; repeat' split) <;> first | rfl | omega
  · refine Or.inl ⟨k, ?_⟩
    rw [if_neg (by omega)] at hk
    simp only [M1_handIn, bnd]
    rw [hk, Option.bind_some, if_pos (by decide), if_pos rfl]
theorem off_due (N : Nat) {o : Nat} (ho : o = 10 ∨ o = 21) {μ : mm} (R1 : relO o 1 μ) (ok : okR μ 1) (hd : μ 1 1 ≤ 999) {p v : Int} (hp : inR p) (hv : 0 ≤ v ∧ v ≤ 99) :
    (¬ (0 ≤ p ∧ p < μ 1 0 ∧ v ≤ 60) ∧ M1_setDue N o p v μ = some (0, μ)) ∨
    ((0 ≤ p ∧ p < μ 1 0 ∧ v ≤ 60) ∧ ∃ μ1 : mm, M1_setDue N o p v μ = some (1, μ1) ∧ μ1 1 = μ 1 ∧ relO o 1 (mu μ1 1 (4 + 6 * p.toNat + 3) v) ∧ okR (mu μ1 1 (4 + 6 * p.toNat + 3) v) 1 ∧ mu μ1 1 (4 + 6 * p.toNat + 3) v 1 1 ≤ 999 ∧ offF o μ μ1) := by
  have hm := ok.1
  have e0 := R1.1
  have hk := M1_knows_eq N o (μ := μ) hp (by omega)
  by_cases k : 0 ≤ p ∧ p < μ 1 0
  · obtain ⟨n, rfl⟩ := Int.eq_ofNat_of_zero_le k.1
    have hn : n < 8 := by omega
    have hq := offP R1 ok k.2
    have hf := R1.2.2.2.2 n k.2
    rw [if_pos (by omega)] at hk
    rw [Int.toNat_natCast]
    by_cases c : v ≤ 60
    · refine Or.inr ⟨⟨k.1, k.2, c⟩, mu μ (o + 2 + n) 3 v, ?_, ?_, ?_⟩
      · simp only [M1_setDue, bnd]
        rw [hk, Option.bind_some, if_pos (by decide), if_neg (by decide), if_pos (by omega), if_pos c, M1_at_eq N o n hn, Option.bind_some, if_pos (kdo ho hn)]
      · funext b; rw [mu_c (by omega)]
      · have ee := off_put (ν := mu (mu μ (o + 2 + n) 3 v) 1 (4 + 6 * n + 3) v) R1 ok hd n (fu (μ (o + 2 + n)) 3 v) ⟨hq.1, hq.2.1, hq.2.2.1, ⟨hv.1, c⟩, hq.2.2.2.2⟩ ?_ ?_ ?_ ?_ ?_ ?_ ?_
        · refine ⟨ee.1, ee.2.1, ee.2.2, ?_⟩
          intro a h1 ho' hr
          funext b
          rw [mu_c (by omega)]
        · intro k hk; unfold mu fu; repeat' split
          all_goals first | rfl | omega
        · intro k hk
          have := hf k hk
          unfold mu fu; repeat' split
          all_goals first | rfl | omega
        · intro p' hp' k hk
          constructor
          · unfold mu; repeat' split
            all_goals first | rfl | omega
          · unfold mu; repeat' split
            all_goals first | rfl | omega
        · constructor <;> (unfold mu; repeat' split) <;> first | rfl | omega
        · have := ok.2.2.1; have := R1.2.1; refine ⟨?_, ?_, ?_⟩ <;> (unfold mu; repeat' split) <;> omega
        · have := ok.2.2.2.1; have := R1.2.2.1; refine ⟨?_, ?_, ?_⟩ <;> (unfold mu; repeat' split) <;> omega
        · constructor <;> (unfold mu; repeat' split) <;> first | rfl | omega
    · refine Or.inl ⟨fun z => c z.2.2, ?_⟩
      simp only [M1_setDue, bnd]
      rw [hk, Option.bind_some, if_pos (by decide), if_neg (by decide), if_pos (by omega), if_neg c]
  · refine Or.inl ⟨fun z => k ⟨z.1, z.2.1⟩, ?_⟩
    rw [if_neg (by omega)] at hk
    simp only [M1_setDue, bnd]
    rw [hk, Option.bind_some, if_pos (by decide), if_pos rfl]
/-- scalars alone change -/
theorem off_scal {o : Nat} {μ ν : mm} (R1 : relO o 1 μ) (ok : okR μ 1) (hp : ∀ p, p < 8 → ν (o + 2 + p) = μ (o + 2 + p)) (hr : ∀ j, 4 ≤ j → ν 1 j = μ 1 j) (e4 : ν 1 0 = μ 1 0 ∧ ν o 2 = μ o 2) (e5 : ν o 3 = ν 1 2 ∧ 0 ≤ ν 1 2 ∧ ν 1 2 ≤ 999) (e6 : ν o 4 = ν 1 3 ∧ 0 ≤ ν 1 3 ∧ ν 1 3 ≤ 9999) (e7 : ν o 5 = ν 1 1 ∧ 0 ≤ ν 1 1 ∧ ν 1 1 ≤ 999) : relO o 1 ν ∧ okR ν 1 ∧ ν 1 1 ≤ 999 := by
  obtain ⟨r1, r2, r3, r4, r5⟩ := R1
  obtain ⟨o1, o2, o3, o4, o5⟩ := ok
  refine ⟨⟨by rw [e4.1, e4.2]; exact r1, e5.1, e6.1, e7.1, fun p' hp' => ?_⟩, ⟨by rw [e4.1]; exact o1, by omega, e5.2, e6.2, fun p' hp' => ?_⟩, e7.2.2⟩
  · rw [e4.1] at hp'
    intro k hk
    rw [hr _ (by omega), hp p' (by omega)]
    exact r5 p' hp' k hk
  · rw [e4.1] at hp'
    have hk := o5 p' hp'
    have e : ∀ k, pq ν 1 p' k = pq μ 1 p' k := fun k => hr _ (by omega)
    unfold okP at hk ⊢
    rw [e 0, e 1, e 2, e 3, e 4, e 5]
    exact hk
theorem off_fill (N : Nat) {o : Nat} (ho : o = 10 ∨ o = 21) {μ : mm} (R1 : relO o 1 μ) (ok : okR μ 1) (hd : μ 1 1 ≤ 999) {v : Int} (hv : 0 ≤ v ∧ v ≤ 999) :
    (¬ (μ 1 2 + v ≤ 999) ∧ M1_fill N o v μ = some (0, μ)) ∨
    ((μ 1 2 + v ≤ 999) ∧ ∃ μ1 : mm, M1_fill N o v μ = some (1, μ1) ∧ μ1 1 = μ 1 ∧ relO o 1 (mu μ1 1 2 (μ 1 2 + v)) ∧ okR (mu μ1 1 2 (μ 1 2 + v)) 1 ∧ mu μ1 1 2 (μ 1 2 + v) 1 1 ≤ 999 ∧ μ1 o 3 = μ 1 2 + v ∧ offF o μ μ1) := by
  have h2 := ok.2.2.1
  have e2 := R1.2.1
  have hd0 := ok.2.1
  have e7 := R1.2.2.2.1
  have h3 := ok.2.2.2.1
  have e3 := R1.2.2.1
  by_cases c : μ 1 2 + v ≤ 999
  · refine Or.inr ⟨c, mu μ o 3 (μ o 3 + v), ?_, ?_, ?_⟩
    · simp only [M1_fill, bnd]
      rw [if_pos (by omega), if_pos (by omega)]
    · funext b; rw [mu_c (by omega)]
    · have ee := off_scal (ν := mu (mu μ o 3 (μ o 3 + v)) 1 2 (μ 1 2 + v)) R1 ok (fun p hp => by funext b; rw [mu_c (by omega), mu_c (by omega)]) (fun j hj => by rw [mu_j (by omega), mu_c (by omega)]) ?_ ?_ ?_ ?_
      · refine ⟨ee.1, ee.2.1, ee.2.2, by rw [mu_s, e2], ?_⟩
        intro a h1 ho' hr
        funext b
        rw [mu_c ho']
      · constructor <;> (unfold mu; repeat' split) <;> first | rfl | omega
      · refine ⟨?_, ?_, ?_⟩ <;> (unfold mu; repeat' split) <;> omega
      · refine ⟨?_, ?_, ?_⟩ <;> (unfold mu; repeat' split) <;> omega
      · refine ⟨?_, ?_, ?_⟩ <;> (unfold mu; repeat' split) <;> omega
  · refine Or.inl ⟨c, ?_⟩
    simp only [M1_fill, bnd]
    rw [if_pos (by omega), if_neg (by omega)]
end
section
theorem r4_c {c : Int} {μ : mm} {a : Nat} (h : a ≠ 47) : r4 c μ a = μ a := funext fun _ => mu_c h
theorem unkZ_no {μ : mm} {p : Int} (h : ¬ unkZ μ p = 0) : unkZ μ p = -1 ∧ ¬ (0 ≤ p ∧ p < μ 1 0) := by
  refine ⟨?_, fun z => h (if_pos z)⟩
  unfold unkZ at h ⊢
  split at h <;> simp_all
theorem fst0 {a b : Int} (ha : a = 0) (hb : b = 0) : fstZ a b 0 = 0 := by unfold fstZ; rw [if_pos ha, if_pos hb]
theorem fst1 {a b c : Int} (ha : ¬ a = 0) : fstZ a b c = a := if_neg ha
theorem fst2 {a b c : Int} (ha : a = 0) (hb : ¬ b = 0) : fstZ a b c = b := by unfold fstZ; rw [if_pos ha, if_neg hb]
theorem fst3 {a b c : Int} (ha : a = 0) (hb : b = 0) : fstZ a b c = c := by unfold fstZ; rw [if_pos ha, if_pos hb]
/-- from an office step of `now' to the whole relation -/
theorem Rel_off {μ ν : mm} (R : Rel μ) (h : relO 10 1 ν ∧ okR ν 1 ∧ ν 1 1 ≤ 999) (hf : offF 10 μ ν) : Rel ν :=
  Rel_now R h (fun a h0 h1 h10 h12 _ => hf a h1 h10 h12) (fun j _ _ => by rw [hf 0 (by decide) (by decide) (by decide)])
theorem op_fills (N : Nat) {μ : mm} (R : Rel μ) {v : Int} (hv : inR v) : Op (M4_fills N v) (M5_fills N v) μ := by
  obtain ⟨⟨a1, a2, a3⟩, rest⟩ := id R
  have ho := outZ_in v 0 99
  have h2 := a2.2.2.1
  by_cases o : outZ v 0 99 = 0
  · have oo := outZ_0 o
    rcases off_fill N (Or.inl rfl) a1 a2 a3 (v := v) (by omega) with ⟨c, e⟩ | ⟨c, μ1, e, er, q1, q2, q3, q4, q5⟩
    · refine Op_ref N R (c := -6) (by decide) ?_ ?_
      · simp only [M4_fills]
        rw [M4_outside_eq N hv (by decide) (by decide), Option.bind_some, o, if_pos (by decide), if_pos rfl, e, Option.bind_some]
        dsimp only
        rw [if_pos (by decide), if_pos rfl, M4_refused_eq N (by decide)]
        rfl
      · intro ν hν
        simp only [M5_fills, J5_fills_29, bnd]
        rw [M5_wrongBy_eq N hv (by decide) (by decide), Option.bind_some, o, if_pos (by decide), if_pos rfl, hν, r4_c (by decide), if_pos (by omega), if_neg c, if_pos (by decide), if_neg (by decide), M5_no_eq N (by decide)]
        rfl
    · refine ⟨μ 1 2 + v, μ1, mu μ1 1 2 (μ 1 2 + v), ?_, ?_, ?_⟩
      · simp only [M4_fills]
        rw [M4_outside_eq N hv (by decide) (by decide), Option.bind_some, o, if_pos (by decide), if_pos rfl, e, Option.bind_some]
        dsimp only
        rw [if_pos (by decide), if_neg (by decide), q4]
      · simp only [M5_fills, J5_fills_29, bnd]
        rw [M5_wrongBy_eq N hv (by decide) (by decide), Option.bind_some, o, if_pos (by decide), if_pos rfl, er, if_pos (by omega), if_pos c, if_pos (by decide), if_pos rfl, mu_s]
      · refine Rel_off R ⟨q1, q2, q3⟩ (fun a h1 h10 h12 => ?_)
        rw [← q5 a h1 h10 h12]
        exact funext fun b => mu_c h1
  · refine Op_ref N R (c := outZ v 0 99) (by omega) ?_ ?_
    · simp only [M4_fills]
      rw [M4_outside_eq N hv (by decide) (by decide), Option.bind_some, if_pos (show inR (outZ v 0 99) from by omega), if_neg o, M4_refused_eq N (by omega)]
      rfl
    · intro ν hν
      simp only [M5_fills, J5_fills_29, bnd]
      rw [M5_wrongBy_eq N hv (by decide) (by decide), Option.bind_some, if_pos (show inR (outZ v 0 99) from by omega), if_neg o, if_pos (show inR (outZ v 0 99) from by omega), if_neg o, M5_no_eq N (by omega)]
      rfl
theorem op_issues (N : Nat) {μ : mm} (R : Rel μ) {p v : Int} (hp : inR p) (hv : inR v) : Op (M4_issues N p v) (M5_issues N p v) μ := by
  obtain ⟨⟨a1, a2, a3⟩, rest⟩ := id R
  have hm := a2.1
  have h2 := a2.2.2.1
  have hu := unkZ_in μ p
  have ho := outZ_in v 0 99
  have e4 : M4_issues N p v μ = if fstZ (unkZ μ p) (outZ v 0 99) 0 = 0 then ((M1_issue N 10 p v μ).bind fun (q5 : (Int × mm)) => if inR q5.1 then (if q5.1 = 0 then M4_refused N (-3) q5.2 else (some ((q5.2 10 3), q5.2))) else none) else M4_refused N (fstZ (unkZ μ p) (outZ v 0 99) 0) μ := by
    have hf := fstZ_in (c := 0) hu ho (by decide)
    have hr : ∀ c : Int, -6 ≤ c ∧ c ≤ 0 → ∀ ν : mm, ((M4_refused N c ν).bind fun (q7 : (Int × mm)) => some (q7.1, q7.2)) = M4_refused N c ν := fun c hc ν => by rw [M4_refused_eq N hc]; rfl
    simp only [M4_issues]
    rw [M4_unknown_eq N hp a1 a2, Option.bind_some, M4_outside_eq N hv (by decide) (by decide), Option.bind_some, M4_firstOf_eq N hu ho, Option.bind_some, if_pos (show inR (fstZ (unkZ μ p) (outZ v 0 99) 0) from by omega), hr _ hf]
    simp only [hr (-3) (by decide)]
  by_cases k : unkZ μ p = 0
  · have kk := unkZ_0 k
    by_cases o : outZ v 0 99 = 0
    · have oo := outZ_0 o
      rw [fst0 k o, if_pos rfl] at e4
      obtain ⟨n, rfl⟩ := Int.eq_ofNat_of_zero_le kk.1
      have hn : n < 8 := by omega
      have hq := a2.2.2.2.2 n kk.2
      have hq2 : 0 ≤ μ 1 (4 + 6 * n + 2) ∧ μ 1 (4 + 6 * n + 2) ≤ 99 := hq.2.2.1
      have m5 : ∀ ν : mm, ν 1 = μ 1 → M5_issues N n v ν = if μ 1 2 < v ∨ 99 < μ 1 (4 + 6 * n + 2) + v then M5_no N (-3) ν else ((M5_issuesIn N 1 n v ν).bind fun (q5 : mm) => some ((q5 1 2), q5)) := by
        intro ν hν
        simp only [M5_issues, J5_issues_19, J5_issues_51, J5_issues_54]
        rw [M5_isOne_eq N hp (okR_congr a2 hν), Option.bind_some, hν, if_pos kk, if_pos (by decide), if_neg (by decide), M5_wrongBy_eq N hv (by decide) (by decide), Option.bind_some, o, if_pos (by decide), if_pos rfl, if_pos (show inR v ∧ inR (μ 1 2) from ⟨hv, by omega⟩), if_pos (show inR (-3) from by decide), if_neg (show ¬ (-3 : Int) = 0 by decide), M5_no_eq N (by decide), Option.bind_some, if_pos (ixg hn (by decide)), ix2, if_pos (show inR (μ 1 (4 + 6 * n + 2) + v) from by omega)]
        by_cases c1 : μ 1 2 < v
        · rw [if_pos c1, if_pos (Or.inl c1)]
        · rw [if_neg c1]
          by_cases c2 : μ 1 (4 + 6 * n + 2) + v ≤ 99
          · rw [if_pos c2, if_pos (by decide), if_pos (by decide), if_neg (by omega)]
          · rw [if_neg c2, if_pos (by omega)]
      rcases off_issue N (Or.inl rfl) a1 a2 a3 (v := v) hp (by omega) with ⟨c, e⟩ | ⟨c, μ1, μ2, e, er, em, q1, q2, q3, q4, q5, q6⟩
      · rw [Int.toNat_natCast] at c
        refine Op_ref N R (c := -3) (by decide) ?_ ?_
        · rw [e4, e, Option.bind_some]
          dsimp only
          rw [if_pos (by decide), if_pos rfl]
        · intro ν hν
          rw [m5 ν (by rw [hν]; exact r4_c (by decide)), if_pos (by omega)]
      · rw [Int.toNat_natCast] at c
        refine ⟨μ1 10 3, μ1, μ2, ?_, ?_, Rel_off R ⟨q1, q2, q3⟩ q6⟩
        · rw [e4, e, Option.bind_some]
          dsimp only
          rw [if_pos (by decide), if_neg (by decide)]
        · rw [m5 μ1 er, if_neg (by omega), em, Option.bind_some, q4]
    · refine Op_ref N R (c := outZ v 0 99) (by omega) ?_ ?_
      · rw [e4, fst2 k o, if_neg o]
      · intro ν hν
        simp only [M5_issues, J5_issues_19, J5_issues_51, J5_issues_54]
        have r1 : ν 1 = μ 1 := by rw [hν]; exact r4_c (by decide)
        rw [M5_isOne_eq N hp (okR_congr a2 r1), Option.bind_some, r1, if_pos kk, if_pos (by decide), if_neg (by decide), M5_wrongBy_eq N hv (by decide) (by decide), Option.bind_some, if_pos (show inR (outZ v 0 99) from by omega), if_neg o, if_pos (show inR (outZ v 0 99) from by omega), if_neg o, M5_no_eq N (by omega)]
        rfl
  · obtain ⟨k1, k2⟩ := unkZ_no k
    refine Op_ref N R (c := -1) (by decide) ?_ ?_
    · rw [e4, fst1 k, k1, if_neg (by decide)]
    · intro ν hν
      have r1 : ν 1 = μ 1 := by rw [hν]; exact r4_c (by decide)
      simp only [M5_issues, J5_issues_19, J5_issues_51, J5_issues_54]
      rw [M5_isOne_eq N hp (okR_congr a2 r1), Option.bind_some, r1, if_neg k2, if_pos (by decide), if_pos rfl, if_pos (by decide), if_neg (by decide), if_pos (by decide), if_neg (by decide), M5_no_eq N (by decide)]
      rfl
theorem op_returns (N : Nat) {μ : mm} (R : Rel μ) {p : Int} (hp : inR p) : Op (M4_returns N p) (M5_returns N p) μ := by
  obtain ⟨⟨a1, a2, a3⟩, rest⟩ := id R
  have hm := a2.1
  have hu := unkZ_in μ p
  have hr : ∀ c : Int, -6 ≤ c ∧ c ≤ 0 → ∀ ν : mm, ((M4_refused N c ν).bind fun (q7 : (Int × mm)) => some (q7.1, q7.2)) = M4_refused N c ν := fun c hc ν => by rw [M4_refused_eq N hc]; rfl
  by_cases k : unkZ μ p = 0
  · have kk := unkZ_0 k
    obtain ⟨n, rfl⟩ := Int.eq_ofNat_of_zero_le kk.1
    have hn : n < 8 := by omega
    have hq := ok12 a1 a2 kk.2
    have hq2 := hq.2.2.1
    have hf : μ 1 (4 + 6 * n + 2) = μ (10 + 2 + n) 2 := a1.2.2.2.2 n kk.2 2 (by decide)
    have hf' : μ (10 + 2 + n) 2 = μ (12 + n) 2 := by rw [show 10 + 2 + n = 12 + n by omega]
    have e4 : M4_returns N n μ = if μ (12 + n) 2 = 0 then M4_refused N (-3) μ else ((M1_handIn N 10 n μ).bind fun (q4 : (Int × mm)) => some ((q4.2 10 3), q4.2)) := by
      simp only [M4_returns, J4_returns_27]
      rw [M4_unknown_eq N hp a1 a2, Option.bind_some, k, if_pos (by decide), if_pos rfl, M1_at_eq N 10 n hn, Option.bind_some, if_pos (kd12 hn), hf', if_pos (by omega), if_pos (show inR (-3) by decide), if_neg (show ¬ (-3 : Int) = 0 by decide), hr (-3) (by decide), if_pos (show inR 0 by decide), if_pos rfl]
    have m5 : ∀ ν : mm, ν 1 = μ 1 → M5_returns N n ν = if μ (12 + n) 2 = 0 then M5_no N (-3) ν else ((M5_handsIn N 1 n ν).bind fun (q5 : mm) => some ((q5 1 2), q5)) := by
      intro ν hν
      simp only [M5_returns]
      rw [M5_isOne_eq N hp (okR_congr a2 hν), Option.bind_some, hν, if_pos kk, if_pos (by decide), if_neg (by decide), if_pos (ixg hn (by decide)), ix2, hf, hf', if_pos (by omega), M5_no_eq N (by decide)]
      rfl
    by_cases c : μ (12 + n) 2 = 0
    · exact Op_ref N R (c := -3) (by decide) (by rw [e4, if_pos c]) (fun ν hν => by rw [m5 ν (by rw [hν]; exact r4_c (by decide)), if_pos c])
    · rcases off_hand N (Or.inl rfl) a1 a2 a3 hp with ⟨c', e⟩ | ⟨-, μ1, μ2, e, er, em, q1, q2, q3, q4, q5, q6⟩
      · exact absurd kk c'
      · refine ⟨μ1 10 3, μ1, μ2, ?_, ?_, Rel_off R ⟨q1, q2, q3⟩ q6⟩
        · rw [e4, if_neg c, e, Option.bind_some]
        · rw [m5 μ1 er, if_neg c, em, Option.bind_some, q4]
  · obtain ⟨k1, k2⟩ := unkZ_no k
    refine Op_ref N R (c := -1) (by decide) ?_ ?_
    · simp only [M4_returns, J4_returns_27]
      rw [M4_unknown_eq N hp a1 a2, Option.bind_some, k1, if_pos (by decide), if_neg (by decide), if_pos (by decide), if_neg (by decide), hr (-1) (by decide)]
    · intro ν hν
      have r1 : ν 1 = μ 1 := by rw [hν]; exact r4_c (by decide)
      simp only [M5_returns]
      rw [M5_isOne_eq N hp (okR_congr a2 r1), Option.bind_some, r1, if_neg k2, if_pos (by decide), if_pos rfl, M5_no_eq N (by decide)]
      rfl
end
section
theorem op_turn (N : Nat) {μ : mm} (R : Rel μ) {p v w : Int} (hp : inR p) (hv : inR v) (hw : inR w) : Op (M4_turn N p v w) (M5_turn N p v w) μ := by
  obtain ⟨⟨a1, a2, a3⟩, rest⟩ := id R
  have hm := a2.1
  have hu := unkZ_in μ p
  have ht := othZ_in v 5
  have ho := outZ_in w 0 9
  have e4 : M4_turn N p v w μ = if fstZ (unkZ μ p) (othZ v 5) (outZ w 0 9) = 0 then ((M1_at N 10 p μ).bind fun (q6 : Nat) => if kd q6 = 5 then (some ((10 * (μ q6 0)) + (μ q6 1), mu (mu μ q6 0 v) q6 1 w)) else none) else M4_refused N (fstZ (unkZ μ p) (othZ v 5) (outZ w 0 9)) μ := by
    have hf := fstZ_in hu ht ho
    simp only [M4_turn, bnd]
    rw [M4_unknown_eq N hp a1 a2, Option.bind_some, M4_other_eq N hv (by decide), Option.bind_some, M4_outside_eq N hw (by decide) (by decide), Option.bind_some, M4_firstOf_eq N hu ht, Option.bind_some, if_pos (show inR (fstZ (unkZ μ p) (othZ v 5) (outZ w 0 9)) from by omega), M4_refused_eq N hf]
    rfl
  by_cases k : unkZ μ p = 0
  · have kk := unkZ_0 k
    obtain ⟨n, rfl⟩ := Int.eq_ofNat_of_zero_le kk.1
    have hn : n < 8 := by omega
    by_cases t : othZ v 5 = 0
    · have tt := othZ_0 t
      by_cases o : outZ w 0 9 = 0
      · have oo := outZ_0 o
        rw [fst3 k t, o, if_pos rfl] at e4
        have hq := ok12 a1 a2 kk.2
        have hf : at6 μ 1 n (μ (12 + n)) := by
          have := a1.2.2.2.2 n kk.2
          rwa [show 10 + 2 + n = 12 + n by omega] at this
        refine ⟨10 * μ (12 + n) 0 + μ (12 + n) 1, mu (mu μ (12 + n) 0 v) (12 + n) 1 w, mu (mu (mu (mu μ (12 + n) 0 v) (12 + n) 1 w) 1 (4 + 6 * n + 0) v) 1 (4 + 6 * n + 1) w, ?_, ?_, ?_⟩
        · rw [e4, M1_at_eq N 10 n hn, Option.bind_some, if_pos (kd12 hn), show 10 + 2 + n = 12 + n by omega]
        · have r1 : (mu (mu μ (12 + n) 0 v) (12 + n) 1 w) 1 = μ 1 := funext fun b => by rw [mu_c (by omega), mu_c (by omega)]
          simp only [M5_turn, J5_turn_33, bnd]
          rw [M5_isOne_eq N hp (okR_congr a2 r1), Option.bind_some, r1, if_pos kk, if_pos (by decide), if_neg (by decide), M5_isIn_eq N hv (by decide) (by decide), Option.bind_some, if_pos tt, if_pos (by decide), if_neg (by decide), M5_wrongBy_eq N hw (by decide) (by decide), Option.bind_some, o, if_pos (by decide), if_pos rfl, if_pos (ixg hn (by decide)), if_pos (ixg hn (by decide)), if_pos (ixg hn (by decide)), if_pos (ixg hn (by decide)), ix0, ix1, hf 0 (by decide), hf 1 (by decide)]
        · refine Rel_off R (off_put a1 a2 a3 n (fu (fu (μ (12 + n)) 0 v) 1 w) ⟨tt, oo, hq.2.2⟩ ?_ ?_ ?_ ?_ ?_ ?_ ?_) ?_
          · intro k hk; unfold mu fu; repeat' split
            all_goals first | rfl | omega | (rw [show 10 + 2 + n = 12 + n by omega])
          · intro k hk
            have := hf k hk
            unfold mu fu; repeat' split
            all_goals first | rfl | omega
          · intro p' hp' k hk
            constructor
            · unfold mu; repeat' split
              all_goals first | rfl | omega
            · unfold mu; repeat' split
              all_goals first | rfl | omega
          · constructor <;> (unfold mu; repeat' split) <;> first | rfl | omega
          · have := a2.2.2.1; have := a1.2.1; refine ⟨?_, ?_, ?_⟩ <;> (unfold mu; repeat' split) <;> omega
          · have := a2.2.2.2.1; have := a1.2.2.1; refine ⟨?_, ?_, ?_⟩ <;> (unfold mu; repeat' split) <;> omega
          · constructor <;> (unfold mu; repeat' split) <;> first | rfl | omega
          · intro a h1 h10 h12
            funext b
            rw [mu_c h1, mu_c h1, mu_c (by omega), mu_c (by omega)]
      · refine Op_ref N R (c := outZ w 0 9) (by omega) ?_ ?_
        · rw [e4, fst3 k t, if_neg o]
        · intro ν hν
          have r1 : ν 1 = μ 1 := by rw [hν]; exact r4_c (by decide)
          simp only [M5_turn, J5_turn_33, bnd]
          rw [M5_isOne_eq N hp (okR_congr a2 r1), Option.bind_some, r1, if_pos kk, if_pos (by decide), if_neg (by decide), M5_isIn_eq N hv (by decide) (by decide), Option.bind_some, if_pos tt, if_pos (by decide), if_neg (by decide), M5_wrongBy_eq N hw (by decide) (by decide), Option.bind_some, if_pos (show inR (outZ w 0 9) from by omega), if_neg o, M5_no_eq N (by omega)]
          rfl
    · have tn : othZ v 5 = -2 ∧ ¬ (0 ≤ v ∧ v ≤ 5) := by
        unfold othZ at t ⊢
        split at t <;> simp_all
      refine Op_ref N R (c := -2) (by decide) ?_ ?_
      · rw [e4, fst2 k t, tn.1, if_neg (by decide)]
      · intro ν hν
        have r1 : ν 1 = μ 1 := by rw [hν]; exact r4_c (by decide)
        simp only [M5_turn, J5_turn_33, bnd]
        rw [M5_isOne_eq N hp (okR_congr a2 r1), Option.bind_some, r1, if_pos kk, if_pos (by decide), if_neg (by decide), M5_isIn_eq N hv (by decide) (by decide), Option.bind_some, if_neg tn.2, if_pos (by decide), if_pos rfl, if_pos (by decide), if_neg (by decide), M5_no_eq N (by decide)]
        rfl
  · obtain ⟨k1, k2⟩ := unkZ_no k
    refine Op_ref N R (c := -1) (by decide) ?_ ?_
    · rw [e4, fst1 k, k1, if_neg (by decide)]
    · intro ν hν
      have r1 : ν 1 = μ 1 := by rw [hν]; exact r4_c (by decide)
      simp only [M5_turn, J5_turn_33, bnd]
      rw [M5_isOne_eq N hp (okR_congr a2 r1), Option.bind_some, r1, if_neg k2, if_pos (by decide), if_pos rfl, if_pos (by decide), if_neg (by decide), M5_no_eq N (by decide)]
      rfl
/-- only the letters' part changes -/
theorem Rel_txt {μ ν : mm} (R : Rel μ) (h : relT ν) (hc : ∀ a, a ≠ 0 → a ≠ 5 → a ≠ 44 → a ≠ 45 → ν a = μ a) (h0 : ∀ j, j ≠ 8 → ν 0 j = μ 0 j) : Rel ν := by
  obtain ⟨⟨a1, a2, a3⟩, ⟨b1, b2⟩, -, ⟨d1, d2, d3⟩, e, f⟩ := R
  have k : ∀ a, a ≠ 0 → a ≠ 5 → a ≠ 44 → a ≠ 45 → ν a = μ a := hc
  have hpn : ∀ p, p < 8 → ν (10 + 2 + p) = μ (10 + 2 + p) := fun p hp => k _ (by omega) (by omega) (by omega) (by omega)
  have hpi : ∀ p, p < 8 → ν (32 + 2 + p) = μ (32 + 2 + p) := fun p hp => k _ (by omega) (by omega) (by omega) (by omega)
  have k1 := k 1 (by decide) (by decide) (by decide) (by decide)
  have k3 := k 3 (by decide) (by decide) (by decide) (by decide)
  have k9 := k 9 (by decide) (by decide) (by decide) (by decide)
  refine ⟨⟨relO_congr a1 (k 10 (by decide) (by decide) (by decide) (by decide)) k1 hpn a2.1.2, okR_congr a2 k1, by rw [k1]; exact a3⟩, ⟨by rw [k9, h0 4 (by decide)]; exact b1, ?_⟩, h, ⟨by rw [k9, h0 9 (by decide)]; exact d1, by rw [h0 9 (by decide)]; exact d2, fun j hj => ?_⟩, fun j h1 h6 => ?_, fun q hk => ?_⟩
  · rw [h0 4 (by decide)]
    rcases b2 with b | ⟨b, b3, b4, b5⟩
    · exact Or.inl b
    · exact Or.inr ⟨b, relO_congr b3 (k 32 (by decide) (by decide) (by decide) (by decide)) k3 hpi b4.1.2, okR_congr b4 k3, by rw [k3]; exact b5⟩
  · rw [h0 9 (by decide)] at hj
    rw [k 46 (by decide) (by decide) (by decide) (by decide), k 6 (by decide) (by decide) (by decide) (by decide)]
    exact d3 j hj
  · rw [k 47 (by decide) (by decide) (by decide) (by decide), k 7 (by decide) (by decide) (by decide) (by decide)]
    exact e j h1 h6
  · rw [k 20 (by decide) (by decide) (by decide) (by decide), k 31 (by decide) (by decide) (by decide) (by decide), k 42 (by decide) (by decide) (by decide) (by decide)]
    exact f q hk
theorem op_letter (N : Nat) {μ : mm} (R : Rel μ) {c : Int} (hc : inR c) : Op (M4_letter N c) (M5_letter N c) μ := by
  obtain ⟨-, -, ⟨t1, t2, t3⟩, -⟩ := id R
  have ho := outZ_in c 0 255
  have hr : ∀ c : Int, -6 ≤ c ∧ c ≤ 0 → ∀ ν : mm, ((M4_refused N c ν).bind fun (q7 : (Int × mm)) => some (q7.1, q7.2)) = M4_refused N c ν := fun c hc ν => by rw [M4_refused_eq N hc]; rfl
  have e4 : M4_letter N c μ = if outZ c 0 255 = 0 then (if μ 44 1 < 96 then ((M3_add N c μ).bind fun (q4 : mm) => some ((q4 44 1), q4)) else M4_refused N (-6) μ) else M4_refused N (outZ c 0 255) μ := by
    simp only [M4_letter, J4_letter_28]
    rw [M4_outside_eq N hc (by decide) (by decide), Option.bind_some, if_pos (show inR (outZ c 0 255) from by omega), hr _ ho, hr (-6) (by decide), if_pos (show inR (μ 44 1) from by omega)]
    by_cases o : outZ c 0 255 = 0
    · rw [if_pos o, if_pos o, if_pos o, if_pos (show inR (-6) by decide), if_neg (show ¬ (-6 : Int) = 0 by decide), if_pos (show inR (outZ c 0 255) from by omega)]
    · rw [if_neg o, if_neg o, if_neg o, if_pos (show inR (outZ c 0 255) from by omega)]
  have m5 : ∀ ν : mm, ν 0 8 = μ 0 8 → M5_letter N c ν = if outZ c 0 255 = 0 then (if μ 0 8 = 96 then M5_no N (-6) ν else some (μ 0 8 + 1, mu (mu ν 5 (μ 0 8).toNat c) 0 8 (μ 0 8 + 1))) else M5_no N (outZ c 0 255) ν := by
    intro ν hν
    simp only [M5_letter, J5_letter_27, bnd]
    rw [if_pos hc, if_pos hc, hν, if_pos (show inR (μ 0 8) from by omega), M5_no_eq N (by decide), M5_no_eq N (by decide), M5_no_eq N ho]
    unfold outZ
    by_cases h1 : c < 0
    · rw [if_neg (show ¬ 0 ≤ c by omega), if_pos h1, if_neg (by decide)]; rfl
    · rw [if_pos (show 0 ≤ c by omega), if_neg h1]
      by_cases h2 : 255 < c
      · rw [if_pos h2, if_pos h2, if_neg (by decide)]; rfl
      · rw [if_neg h2, if_neg h2, if_pos rfl]
        by_cases h3 : μ 0 8 = 96
        · rw [if_pos h3, if_pos h3]; rfl
        · rw [if_neg h3, if_neg h3, if_pos (by omega), mu_s, mu_c (show (0 : Nat) ≠ 5 by decide), hν]
  by_cases o : outZ c 0 255 = 0
  · have oo := outZ_0 o
    by_cases f : μ 0 8 = 96
    · exact Op_ref N R (c := -6) (by decide) (by rw [e4, if_pos o, if_neg (by omega)]) (fun ν hν => by rw [m5 ν (by rw [hν, r4_c (by decide)]), if_pos o, if_pos f])
    · obtain ⟨j, hj⟩ := Int.eq_ofNat_of_zero_le t2.1
      refine ⟨μ 0 8 + 1, mu (mu μ 44 1 (μ 0 8 + 1)) 45 (μ 0 8).toNat c, mu (mu (mu (mu μ 44 1 (μ 0 8 + 1)) 45 (μ 0 8).toNat c) 5 (μ 0 8).toNat c) 0 8 (μ 0 8 + 1), ?_, ?_, ?_⟩
      · rw [e4, if_pos o, if_pos (by omega)]
        simp only [M3_add, bnd]
        rw [t1, if_pos (show inR (μ 0 8) from by omega), if_neg (show ¬ μ 0 8 < 0 by omega), if_pos (show inR (μ 0 8) from by omega), if_neg (show ¬ 96 ≤ μ 0 8 by omega), if_pos (show 0 ≤ μ 0 8 ∧ μ 0 8 < 96 by omega), Option.bind_some, mu_c (by decide), mu_s]
      · rw [m5 _ (by rw [mu_c (by decide), mu_c (by decide)]), if_pos o, if_neg f]
      · refine Rel_txt R ⟨?_, ?_, ?_⟩ ?_ ?_
        · unfold mu; repeat' split
          all_goals first | rfl | omega
        · have e : ∀ x : mm, mu x 0 8 (μ 0 8 + 1) 0 8 = μ 0 8 + 1 := fun x => mu_s
          rw [e]; omega
        · intro i hi
          have e : ∀ x : mm, mu x 0 8 (μ 0 8 + 1) 0 8 = μ 0 8 + 1 := fun x => mu_s
          rw [e] at hi
          rw [mu_c (by decide), mu_c (by decide), mu_c (show 5 ≠ 0 by decide)]
          by_cases q : i = (μ 0 8).toNat
          · subst q
            rw [mu_s, mu_s]
            exact ⟨rfl, oo⟩
          · rw [mu_j q, mu_c (by decide), mu_j q, mu_c (by decide), mu_c (by decide)]
            exact t3 i (by omega)
        · intro a h0 h5 h44 h45
          funext b
          rw [mu_c h0, mu_c h5, mu_c h45, mu_c h44]
        · intro i hi
          rw [mu_j hi, mu_c (by decide), mu_c (by decide), mu_c (by decide)]
  · exact Op_ref N R (c := outZ c 0 255) (by omega) (by rw [e4, if_neg o]) (fun ν hν => by rw [m5 ν (by rw [hν, r4_c (by decide)]), if_neg o])
end
section
/-- a call that changes nothing -/
def OpR (f g : mm → Option Int) (μ : mm) : Prop := ∃ r : Int, f μ = some r ∧ g μ = some r
theorem kd32 {n : Nat} (h : n < 8) : kd (32 + 2 + n) = 5 := by
  have := kd_el (i := 33) (j := n) rfl h
  rwa [show 33 + 1 + n = 32 + 2 + n by omega] at this
theorem kdO {o n : Nat} (ho : o = 10 ∨ o = 21 ∨ o = 32) (h : n < 8) : kd (o + 2 + n) = 5 := by
  rcases ho with rfl | rfl | rfl
  · exact kdo (Or.inl rfl) h
  · exact kdo (Or.inr rfl) h
  · exact kd32 h
theorem M1_allThrough_loop (N : Nat) {o : Nat} (ho : o = 10 ∨ o = 21 ∨ o = 32) {μ : mm} (hm : 0 ≤ μ o 2 ∧ μ o 2 ≤ 8) : ∀ (k p : Nat), (p : Int) ≤ μ o 2 → μ o 2 < (p : Int) + k → L1_allThrough_4 N k o (sumN (fun p => μ (o + 2 + p) 4) p) (p : Int) μ = some (sumN (fun p => μ (o + 2 + p) 4) (μ o 2).toNat) := by
  intro k
  induction k with
  | zero => intro p h1 h2; omega
  | succ k ih =>
    intro p h1 h2
    rw [L1_allThrough_4, if_pos (by omega)]
    by_cases c : μ o 2 ≤ (p : Int)
    · rw [if_pos c, show p = (μ o 2).toNat by omega]
    · rw [if_neg c, M1_at_eq N o p (by omega), Option.bind_some, if_pos (kdO ho (by omega))]
      simp only [bnd]
      exact ih (p + 1) (by omega) (by omega)
theorem M1_allThrough_eq (N : Nat) {o : Nat} (ho : o = 10 ∨ o = 21 ∨ o = 32) {μ : mm} (hN : 9 ≤ N) (hm : 0 ≤ μ o 2 ∧ μ o 2 ≤ 8) : M1_allThrough N o μ = some (sumN (fun p => μ (o + 2 + p) 4) (μ o 2).toNat) := M1_allThrough_loop N ho hm N 0 (by omega) (by omega)
theorem M1_allShort_loop (N : Nat) {o : Nat} (ho : o = 10 ∨ o = 21 ∨ o = 32) {μ : mm} (hm : 0 ≤ μ o 2 ∧ μ o 2 ≤ 8) : ∀ (k p : Nat), (p : Int) ≤ μ o 2 → μ o 2 < (p : Int) + k → L1_allShort_4 N k o (sumN (fun p => μ (o + 2 + p) 5) p) (p : Int) μ = some (sumN (fun p => μ (o + 2 + p) 5) (μ o 2).toNat) := by
  intro k
  induction k with
  | zero => intro p h1 h2; omega
  | succ k ih =>
    intro p h1 h2
    rw [L1_allShort_4, if_pos (by omega)]
    by_cases c : μ o 2 ≤ (p : Int)
    · rw [if_pos c, show p = (μ o 2).toNat by omega]
    · rw [if_neg c, M1_at_eq N o p (by omega), Option.bind_some, if_pos (kdO ho (by omega))]
      simp only [bnd]
      exact ih (p + 1) (by omega) (by omega)
theorem M1_allShort_eq (N : Nat) {o : Nat} (ho : o = 10 ∨ o = 21 ∨ o = 32) {μ : mm} (hN : 9 ≤ N) (hm : 0 ≤ μ o 2 ∧ μ o 2 ≤ 8) : M1_allShort N o μ = some (sumN (fun p => μ (o + 2 + p) 5) (μ o 2).toNat) := M1_allShort_loop N ho hm N 0 (by omega) (by omega)
theorem M1_allHas_loop (N : Nat) {o : Nat} (ho : o = 10 ∨ o = 21 ∨ o = 32) {μ : mm} (hm : 0 ≤ μ o 2 ∧ μ o 2 ≤ 8) : ∀ (k p : Nat), (p : Int) ≤ μ o 2 → μ o 2 < (p : Int) + k → L1_allHas_4 N k o (sumN (fun p => μ (o + 2 + p) 2) p) (p : Int) μ = some (sumN (fun p => μ (o + 2 + p) 2) (μ o 2).toNat) := by
  intro k
  induction k with
  | zero => intro p h1 h2; omega
  | succ k ih =>
    intro p h1 h2
    rw [L1_allHas_4, if_pos (by omega)]
    by_cases c : μ o 2 ≤ (p : Int)
    · rw [if_pos c, show p = (μ o 2).toNat by omega]
    · rw [if_neg c, M1_at_eq N o p (by omega), Option.bind_some, if_pos (kdO ho (by omega))]
      simp only [bnd]
      exact ih (p + 1) (by omega) (by omega)
theorem M1_allHas_eq (N : Nat) {o : Nat} (ho : o = 10 ∨ o = 21 ∨ o = 32) {μ : mm} (hN : 9 ≤ N) (hm : 0 ≤ μ o 2 ∧ μ o 2 ≤ 8) : M1_allHas N o μ = some (sumN (fun p => μ (o + 2 + p) 2) (μ o 2).toNat) := M1_allHas_loop N ho hm N 0 (by omega) (by omega)
/-- the sums of both sides are one -/
theorem sum_one {o : Nat} {μ : mm} (R1 : relO o 1 μ) (w : Nat) (hw : w < 6) : sumN (fun p => μ (o + 2 + p) w) (μ o 2).toNat = sumN (fun p => μ 1 (4 + 6 * p + w)) (μ 1 0).toNat := by
  rw [R1.1]
  exact sumN_congr _ (fun i hi => (R1.2.2.2.2 i (by omega) w hw).symm)
theorem op_worth (N : Nat) (hN : 9 ≤ N) {μ : mm} (R : Rel μ) : OpR (M4_worth N) (M5_worth N) μ := by
  obtain ⟨⟨a1, a2, a3⟩, rest⟩ := id R
  have hm := a2.1
  have e := a1.1
  refine ⟨sumN (fun p => μ 1 (4 + 6 * p + 4)) (μ 1 0).toNat - sumN (fun p => μ 1 (4 + 6 * p + 5)) (μ 1 0).toNat, ?_, ?_⟩
  · unfold M4_worth
    rw [M1_allThrough_eq N (Or.inl rfl) hN (by rw [e]; exact hm), Option.bind_some, M1_allShort_eq N (Or.inl rfl) hN (by rw [e]; exact hm), Option.bind_some, sum_one a1 4 (by decide), sum_one a1 5 (by decide)]
  · unfold M5_worth
    have e4 := M5_allOf_eq N 1 4 (by decide) hN (μ := μ) hm
    have e5 := M5_allOf_eq N 1 5 (by decide) hN (μ := μ) hm
    rw [show ((4 : Nat) : Int) = 4 from rfl] at e4
    rw [show ((5 : Nat) : Int) = 5 from rfl] at e5
    rw [e4, Option.bind_some, e5, Option.bind_some]
def lackZ (q : Nat → Int) : Int := if q 3 = 0 then 0 else max 0 (needsZ (q 0) (q 1) - q 2)
theorem lackZ_in {q : Nat → Int} (h : okP q) : 0 ≤ lackZ q ∧ lackZ q ≤ 24 := by
  have hn := needsZ_in (k := q 0) h.2.1
  have := h.2.2.1
  unfold lackZ
  split <;> omega
theorem lackZ_congr {q q' : Nat → Int} (h : ∀ k, k < 6 → q k = q' k) : lackZ q = lackZ q' := by
  unfold lackZ
  rw [h 0 (by decide), h 1 (by decide), h 2 (by decide), h 3 (by decide)]
theorem M0_needs_eq (N : Nat) {k f : Int} (hk : 0 ≤ k ∧ k ≤ 5) (hf : 0 ≤ f ∧ f ≤ 9) (μ : mm) : M0_needs N k f μ = some (needsZ k f) := by
  simp only [M0_needs, needsZ, bnd]
  rw [if_pos (by omega), if_pos (show 0 ≤ f + 1 ∧ inR (f + 1) from by omega)]
  repeat' split
  all_goals first | rfl | omega | (congr 1; omega)
theorem M2_lacking_eq (N c : Nat) {μ : mm} (h : okP (μ c)) : M2_lacking N c μ = some (lackZ (μ c)) := by
  have hn := needsZ_in (k := μ c 0) h.2.1
  obtain ⟨h0, h1, h2, h3, -⟩ := h
  simp only [M2_lacking, M2_needed, lackZ]
  rw [M0_needs_eq N h0 h1, Option.bind_some, Option.bind_some, if_pos (show inR (μ c 3) from by omega), if_pos (show inR (needsZ (μ c 0) (μ c 1) - μ c 2) from by omega)]
  by_cases d : μ c 3 = 0
  · rw [if_pos d, if_pos d]
  · rw [if_neg d, if_neg d]
    congr 1
    split <;> omega
theorem op_lacks_loop (N : Nat) {μ : mm} (R1 : relO 10 1 μ) (ok : okR μ 1) : ∀ (k p : Nat) (x : Int), (p : Int) ≤ μ 1 0 → μ 1 0 < (p : Int) + k → ∃ r, L4_lacks_4 N k x (p : Int) μ = some r ∧ L5_lacks_4 N k x (p : Int) μ = some r := by
  have hm := ok.1
  have e := R1.1
  intro k
  induction k with
  | zero => intro p x h1 h2; omega
  | succ k ih =>
    intro p x h1 h2
    have gg : inR (p : Int) ∧ inR (μ 1 0) := by omega
    rw [L4_lacks_4, L5_lacks_4, e, if_pos gg, if_pos gg]
    by_cases c : μ 1 0 ≤ (p : Int)
    · rw [if_pos c, if_pos c]
      exact ⟨x, rfl, rfl⟩
    · have hp : p < 8 := by omega
      have hq := offP R1 ok (n := p) (by omega)
      rw [if_neg c, if_neg c, M1_at_eq N 10 p hp, Option.bind_some, if_pos (kdo (Or.inl rfl) hp), M2_lacking_eq N _ hq, Option.bind_some, M5_lacksIn_eq N 1 p μ hp (R1.2.2.2.2 p (by omega)) hq, Option.bind_some]
      simp only [bnd]
      exact ih (p + 1) _ (by omega) (by omega)
theorem op_lacks (N : Nat) (hN : 9 ≤ N) {μ : mm} (R : Rel μ) : OpR (M4_lacks N) (M5_lacks N) μ := by
  have hm := R.1.2.1.1
  exact op_lacks_loop N R.1.1 R.1.2.1 N 0 0 (by omega) (by omega)
theorem op_richest_loop (N : Nat) {μ : mm} (R1 : relO 10 1 μ) (ok : okR μ 1) : ∀ (k p : Nat) (x y : Int), (p : Int) ≤ μ 1 0 → μ 1 0 < (p : Int) + k → ((x = -9 ∧ y = -9) ∨ ∃ n : Nat, x = (n : Int) ∧ (n : Int) < μ 1 0 ∧ y = μ 1 (4 + 6 * n + 2)) → ∃ r, L4_richest_8 N k x y (p : Int) μ = some r ∧ L5_richest_5 N k x (p : Int) μ = some r := by
  have hm := ok.1
  have e := R1.1
  intro k
  induction k with
  | zero => intro p x y h1 h2; omega
  | succ k ih =>
    intro p x y h1 h2 hxy
    have gg : inR (p : Int) ∧ inR (μ 1 0) := by omega
    rw [L4_richest_8, L5_richest_5, e, if_pos gg, if_pos gg]
    by_cases c : μ 1 0 ≤ (p : Int)
    · rw [if_pos c, if_pos c]
      exact ⟨x, rfl, rfl⟩
    · have hp : p < 8 := by omega
      have hq := offP R1 ok (n := p) (by omega)
      have hq2 := hq.2.2.1
      have hf : μ 1 (4 + 6 * p + 2) = μ (10 + 2 + p) 2 := R1.2.2.2.2 p (by omega) 2 (by decide)
      have up : ∃ r, L4_richest_8 N k (p : Int) (μ (10 + 2 + p) 2) ((p : Int) + 1) μ = some r ∧ L5_richest_5 N k (p : Int) ((p : Int) + 1) μ = some r :=
        ih (p + 1) (p : Int) (μ (10 + 2 + p) 2) (by omega) (by omega) (Or.inr ⟨p, rfl, by omega, hf.symm⟩)
      rw [if_neg c, if_neg c, M1_at_eq N 10 p hp, Option.bind_some, if_pos (kdo (Or.inl rfl) hp)]
      simp only [bnd, J4_richest_43, J5_richest_44, J5_richest_42]
      rcases hxy with ⟨rfl, rfl⟩ | ⟨n, rfl, hn, rfl⟩
      · rw [if_pos (by omega), if_neg (show ¬ μ (10 + 2 + p) 2 ≤ -9 by omega), if_pos (show inR (-9) by decide), if_pos (by decide)]
        exact up
      · have hqn := (offP R1 ok (n := n) hn).2.2.1
        have hfn : μ 1 (4 + 6 * n + 2) = μ (10 + 2 + n) 2 := R1.2.2.2.2 n hn 2 (by decide)
        rw [if_pos (show inR (n : Int) from by omega), if_neg (show ¬ (n : Int) < 0 by omega), if_pos (ixg hp (by decide)), if_pos (ixg (show n < 8 by omega) (by decide)), ix2, ix2, hf, hfn]
        have g : inR (μ (10 + 2 + p) 2) ∧ inR (μ (10 + 2 + n) 2) := by omega
        rw [if_pos g, if_pos g]
        by_cases d : μ (10 + 2 + p) 2 ≤ μ (10 + 2 + n) 2
        · rw [if_pos d, if_pos d, ← hfn]
          exact ih (p + 1) (n : Int) _ (by omega) (by omega) (Or.inr ⟨n, rfl, hn, rfl⟩)
        · rw [if_neg d, if_neg d]
          exact up
theorem op_richest (N : Nat) (hN : 9 ≤ N) {μ : mm} (R : Rel μ) : OpR (M4_richest N) (M5_richest N) μ := by
  have hm := R.1.2.1.1
  exact op_richest_loop N R.1.1 R.1.2.1 N 0 (-9) (-9) (by omega) (by omega) (Or.inl ⟨rfl, rfl⟩)
end
section
theorem op_next_loop (N : Nat) {μ : mm} (R1 : relO 10 1 μ) (ok : okR μ 1) (w : Int) (hw : 0 ≤ w ∧ w ≤ 1) : ∀ (k p : Nat) (x y : Int), (p : Int) ≤ μ 1 0 → μ 1 0 < (p : Int) + k → ((x = -9 ∧ y = -9) ∨ ∃ n : Nat, x = (n : Int) ∧ (n : Int) < μ 1 0 ∧ y = μ 1 (4 + 6 * n + 3)) → ∃ r, L4_next_26 N k w x y (p : Int) μ = some (r, μ) ∧ L5_next_21 N k w x (p : Int) μ = some (r, μ) := by
  have hm := ok.1
  have e := R1.1
  intro k
  induction k with
  | zero => intro p x y h1 h2; omega
  | succ k ih =>
    intro p x y h1 h2 hxy
    have gg : inR (p : Int) ∧ inR (μ 1 0) := by omega
    rw [L4_next_26, L5_next_21, e, if_pos gg, if_pos gg]
    by_cases c : μ 1 0 ≤ (p : Int)
    · rw [if_pos c, if_pos c]
      have gw : inR w := by omega
      rcases hxy with ⟨rfl, rfl⟩ | ⟨n, rfl, hn, rfl⟩
      · refine ⟨-9, ?_, ?_⟩
        · rw [if_pos gw]
          split <;> rfl
        · rw [if_pos (show inR (-9) by decide), if_pos (by decide)]
      · have gn : inR (n : Int) := by omega
        by_cases d : w = 0
        · exact ⟨(n : Int), by rw [if_pos gw, if_pos d], by rw [if_pos gn, if_neg (by omega), if_pos gw, if_pos d]⟩
        · exact ⟨μ 1 (4 + 6 * n + 3), by rw [if_pos gw, if_neg d], by rw [if_pos gn, if_neg (by omega), if_pos gw, if_neg d, if_pos (ixg (show n < 8 by omega) (by decide)), ix3]⟩
    · have hp : p < 8 := by omega
      have hq := offP R1 ok (n := p) (by omega)
      have hq3 := hq.2.2.2.1
      have hf : μ 1 (4 + 6 * p + 3) = μ (10 + 2 + p) 3 := R1.2.2.2.2 p (by omega) 3 (by decide)
      have up : ∃ r, L4_next_26 N k w (p : Int) (μ (10 + 2 + p) 3) ((p : Int) + 1) μ = some (r, μ) ∧ L5_next_21 N k w (p : Int) ((p : Int) + 1) μ = some (r, μ) :=
        ih (p + 1) (p : Int) (μ (10 + 2 + p) 3) (by omega) (by omega) (Or.inr ⟨p, rfl, by omega, hf.symm⟩)
      have st : ∃ r, L4_next_26 N k w x y ((p : Int) + 1) μ = some (r, μ) ∧ L5_next_21 N k w x ((p : Int) + 1) μ = some (r, μ) :=
        ih (p + 1) x y (by omega) (by omega) hxy
      have g3 : inR (μ (10 + 2 + p) 3) := by omega
      rw [if_neg c, if_neg c, M1_at_eq N 10 p hp, Option.bind_some, if_pos (kdo (Or.inl rfl) hp), if_pos (ixg hp (by decide)), ix3, hf]
      simp only [bnd, J4_next_75, J4_next_68, J5_next_73, J5_next_71]
      rw [if_pos g3, if_pos g3]
      by_cases d : μ (10 + 2 + p) 3 ≤ 0
      · rw [if_pos d, if_pos d]
        exact st
      · rw [if_neg d, if_neg d]
        rcases hxy with ⟨rfl, rfl⟩ | ⟨n, rfl, hn, rfl⟩
        · have g9 : inR (-9) := by decide
          have l9 : (-9 : Int) < 0 := by decide
          rw [if_pos g9, if_pos g9, if_pos l9, if_pos l9]
          exact up
        · have gn : inR (n : Int) := by omega
          have ln : ¬ (n : Int) < 0 := by omega
          have hqn := (offP R1 ok (n := n) hn).2.2.2.1
          have hfn : μ 1 (4 + 6 * n + 3) = μ (10 + 2 + n) 3 := R1.2.2.2.2 n hn 3 (by decide)
          rw [if_pos gn, if_pos gn, if_neg ln, if_neg ln, if_pos (ixg hp (by decide)), if_pos (ixg (show n < 8 by omega) (by decide)), ix3, hfn]
          rw [hfn] at st
          have g : inR (μ (10 + 2 + p) 3) ∧ inR (μ (10 + 2 + n) 3) := by omega
          rw [if_pos g, if_pos g]
          by_cases f : μ (10 + 2 + n) 3 ≤ μ (10 + 2 + p) 3
          · rw [if_pos f, if_pos f]
            exact st
          · rw [if_neg f, if_neg f]
            exact up
theorem oth_no {w l : Int} (h : ¬ othZ w l = 0) : othZ w l = -2 ∧ ¬ (0 ≤ w ∧ w ≤ l) := by
  unfold othZ at h ⊢
  split at h <;> simp_all
theorem rf4 (N : Nat) {c : Int} (hc : -6 ≤ c ∧ c ≤ 0) (ν : mm) : ((M4_refused N c ν).bind fun (q7 : (Int × mm)) => some (q7.1, q7.2)) = M4_refused N c ν := by rw [M4_refused_eq N hc]; rfl
theorem rf5 (N : Nat) {c : Int} (hc : -6 ≤ c ∧ c ≤ 0) (ν : mm) : ((M5_no N c ν).bind fun (q7 : (Int × mm)) => some (q7.1, q7.2)) = M5_no N c ν := by rw [M5_no_eq N hc]; rfl
theorem op_next (N : Nat) (hN : 9 ≤ N) {μ : mm} (R : Rel μ) {w : Int} (hw : inR w) : Op (M4_next N w) (M5_next N w) μ := by
  have hm := R.1.2.1.1
  by_cases t : othZ w 1 = 0
  · have tt := othZ_0 t
    obtain ⟨r, e1, e2⟩ := op_next_loop N R.1.1 R.1.2.1 w tt N 0 (-9) (-9) (by omega) (by omega) (Or.inl ⟨rfl, rfl⟩)
    refine ⟨r, μ, μ, ?_, ?_, R⟩
    · simp only [M4_next]
      rw [M4_other_eq N hw (by decide), Option.bind_some, t, if_pos (by decide), if_pos rfl]
      exact e1
    · simp only [M5_next]
      rw [M5_isIn_eq N hw (by decide) (by decide), Option.bind_some, if_pos tt, if_pos (by decide), if_neg (by decide)]
      exact e2
  · obtain ⟨t1, t2⟩ := oth_no t
    refine Op_ref N R (c := -2) (by decide) ?_ (fun ν _ => ?_)
    · simp only [M4_next]
      rw [M4_other_eq N hw (by decide), Option.bind_some, t1, if_pos (by decide), if_neg (by decide), rf4 N (by decide)]
    · simp only [M5_next]
      rw [M5_isIn_eq N hw (by decide) (by decide), Option.bind_some, if_neg t2, if_pos (by decide), if_pos rfl, rf5 N (by decide)]
theorem op_shares (N : Nat) {μ : mm} (R : Rel μ) {w : Int} (hw : inR w) : Op (M4_shares N w) (M5_shares N w) μ := by
  obtain ⟨⟨a1, a2, a3⟩, -⟩ := id R
  have hm := a2.1
  have h2 := a2.2.2.1
  have e := a1.1
  have es := a1.2.1
  by_cases t : othZ w 1 = 0
  · have tt := othZ_0 t
    have m4 : M4_shares N w μ = some (if μ 1 0 = 0 then (if w = 0 then 0 else μ 1 2) else if w = 0 then μ 1 2 / μ 1 0 else μ 1 2 % μ 1 0, μ) := by
      simp only [M4_shares]
      rw [M4_other_eq N hw (by decide), Option.bind_some, t, if_pos (by decide), if_pos rfl, e, es, if_pos (show inR (μ 1 0) from by omega)]
      by_cases c : μ 1 0 = 0
      · rw [if_neg (show ¬ 1 ≤ μ 1 0 by omega), if_pos c, if_pos hw]
        split <;> rfl
      · rw [if_pos (show 1 ≤ μ 1 0 by omega), if_neg c, if_pos hw, if_pos (show 0 ≤ μ 1 2 ∧ 0 < μ 1 0 ∧ inR (μ 1 2) ∧ inR (μ 1 0) from by omega), if_pos (show 0 ≤ μ 1 2 ∧ 0 < μ 1 0 ∧ inR (μ 1 2) ∧ inR (μ 1 0) from by omega)]
        split <;> rfl
    have m5 : M5_shares N w μ = some (if μ 1 0 = 0 then (if w = 0 then 0 else μ 1 2) else if w = 0 then μ 1 2 / μ 1 0 else μ 1 2 % μ 1 0, μ) := by
      simp only [M5_shares, bnd]
      rw [M5_isIn_eq N hw (by decide) (by decide), Option.bind_some, if_pos tt, if_pos (by decide), if_neg (by decide), if_pos (show inR (μ 1 0) from by omega)]
      by_cases c : μ 1 0 = 0
      · rw [if_pos c, if_pos c, if_pos hw]
        split <;> rfl
      · rw [if_neg c, if_neg c, if_pos hw, if_pos (show 0 ≤ μ 1 2 ∧ 0 < μ 1 0 ∧ inR (μ 1 2) ∧ inR (μ 1 0) from by omega), if_pos (show 0 ≤ μ 1 2 ∧ 0 < μ 1 0 ∧ inR (μ 1 2) ∧ inR (μ 1 0) from by omega)]
        split <;> rfl
    exact ⟨_, μ, μ, m4, m5, R⟩
  · obtain ⟨t1, t2⟩ := oth_no t
    refine Op_ref N R (c := -2) (by decide) ?_ (fun ν _ => ?_)
    · simp only [M4_shares]
      rw [M4_other_eq N hw (by decide), Option.bind_some, t1, if_pos (by decide), if_neg (by decide), rf4 N (by decide)]
    · simp only [M5_shares, bnd]
      rw [M5_isIn_eq N hw (by decide) (by decide), Option.bind_some, if_neg t2, if_pos (by decide), if_pos rfl, rf5 N (by decide)]
theorem op_trusted (N : Nat) {μ : mm} (R : Rel μ) {p : Int} (hp : inR p) : Op (M4_trusted N p) (M5_trusted N p) μ := by
  obtain ⟨⟨a1, a2, a3⟩, -⟩ := id R
  have hm := a2.1
  by_cases k : unkZ μ p = 0
  · have kk := unkZ_0 k
    obtain ⟨n, rfl⟩ := Int.eq_ofNat_of_zero_le kk.1
    have hn : n < 8 := by omega
    have hf := a1.2.2.2.2 n kk.2
    refine ⟨μ (10 + 2 + n) 4 - μ (10 + 2 + n) 5, μ, μ, ?_, ?_, R⟩
    · simp only [M4_trusted]
      rw [M4_unknown_eq N hp a1 a2, Option.bind_some, k, if_pos (by decide), if_pos rfl, M1_at_eq N 10 n hn, Option.bind_some, if_pos (kdo (Or.inl rfl) hn)]
    · simp only [M5_trusted]
      rw [M5_isOne_eq N hp a2, Option.bind_some, if_pos kk, if_pos (by decide), if_neg (by decide), if_pos (ixg hn (by decide)), if_pos (ixg hn (by decide)), ix4, ix5, hf 4 (by decide), hf 5 (by decide)]
  · obtain ⟨k1, k2⟩ := unkZ_no k
    refine ⟨1000000001, r4 (-1) μ, r5 (-1) (r4 (-1) μ), ?_, ?_, Rel_ref R (by decide)⟩
    · simp only [M4_trusted]
      rw [M4_unknown_eq N hp a1 a2, Option.bind_some, k1, if_pos (by decide), if_neg (by decide), M4_refused_eq N (by decide)]
      rfl
    · simp only [M5_trusted, M5_noFar]
      have r1 : r4 (-1) μ 1 = μ 1 := r4_c (by decide)
      rw [M5_isOne_eq N hp (okR_congr a2 r1), Option.bind_some, r1, if_neg k2, if_pos (by decide), if_pos rfl, M5_no_eq N (by decide)]
      rfl
end
section
theorem op_person (N : Nat) {μ : mm} (R : Rel μ) {p w : Int} (hp : inR p) (hw : inR w) : Op (M4_person N p w) (M5_person N p w) μ := by
  obtain ⟨⟨a1, a2, a3⟩, -⟩ := id R
  have hm := a2.1
  have hu := unkZ_in μ p
  have ht := othZ_in w 7
  by_cases k : unkZ μ p = 0
  · have kk := unkZ_0 k
    obtain ⟨n, rfl⟩ := Int.eq_ofNat_of_zero_le kk.1
    have hn : n < 8 := by omega
    have h6 := a1.2.2.2.2 n kk.2
    have hq := offP a1 a2 kk.2
    by_cases t : othZ w 7 = 0
    · have tt := othZ_0 t
      have hc : w = 0 ∨ w = 1 ∨ w = 2 ∨ w = 3 ∨ w = 4 ∨ w = 5 ∨ w = 6 ∨ w = 7 := by omega
      rcases hc with rfl | rfl | rfl | rfl | rfl | rfl | rfl | rfl
      · refine ⟨μ (10 + 2 + n) 0, μ, μ, ?_, ?_, R⟩
        · simp only [M4_person]
          rw [M4_unknown_eq N hp a1 a2, Option.bind_some, M4_other_eq N hw (by decide), Option.bind_some, M4_firstOf_eq N hu ht, Option.bind_some, fst0 k t, if_pos (by decide), if_pos rfl, M1_at_eq N 10 n hn, Option.bind_some, if_pos (kdo (Or.inl rfl) hn), if_pos hw]
          rfl
        · simp only [M5_person]
          rw [M5_isOne_eq N hp a2, Option.bind_some, if_pos kk, if_pos (by decide), if_neg (by decide), M5_isIn_eq N hw (by decide) (by decide), Option.bind_some, if_pos (show (0 : Int) ≤ 0 ∧ (0 : Int) ≤ 5 by decide), if_pos (by decide), if_neg (by decide), if_pos (ixg hn (by decide)), ix0, h6 0 (by decide)]
      · refine ⟨μ (10 + 2 + n) 1, μ, μ, ?_, ?_, R⟩
        · simp only [M4_person]
          rw [M4_unknown_eq N hp a1 a2, Option.bind_some, M4_other_eq N hw (by decide), Option.bind_some, M4_firstOf_eq N hu ht, Option.bind_some, fst0 k t, if_pos (by decide), if_pos rfl, M1_at_eq N 10 n hn, Option.bind_some, if_pos (kdo (Or.inl rfl) hn), if_pos hw]
          rfl
        · simp only [M5_person]
          rw [M5_isOne_eq N hp a2, Option.bind_some, if_pos kk, if_pos (by decide), if_neg (by decide), M5_isIn_eq N hw (by decide) (by decide), Option.bind_some, if_pos (show (0 : Int) ≤ 1 ∧ (1 : Int) ≤ 5 by decide), if_pos (by decide), if_neg (by decide), if_pos (ixg hn (by decide)), ix1, h6 1 (by decide)]
      · refine ⟨μ (10 + 2 + n) 2, μ, μ, ?_, ?_, R⟩
        · simp only [M4_person]
          rw [M4_unknown_eq N hp a1 a2, Option.bind_some, M4_other_eq N hw (by decide), Option.bind_some, M4_firstOf_eq N hu ht, Option.bind_some, fst0 k t, if_pos (by decide), if_pos rfl, M1_at_eq N 10 n hn, Option.bind_some, if_pos (kdo (Or.inl rfl) hn), if_pos hw]
          rfl
        · simp only [M5_person]
          rw [M5_isOne_eq N hp a2, Option.bind_some, if_pos kk, if_pos (by decide), if_neg (by decide), M5_isIn_eq N hw (by decide) (by decide), Option.bind_some, if_pos (show (0 : Int) ≤ 2 ∧ (2 : Int) ≤ 5 by decide), if_pos (by decide), if_neg (by decide), if_pos (ixg hn (by decide)), ix2, h6 2 (by decide)]
      · refine ⟨μ (10 + 2 + n) 3, μ, μ, ?_, ?_, R⟩
        · simp only [M4_person]
          rw [M4_unknown_eq N hp a1 a2, Option.bind_some, M4_other_eq N hw (by decide), Option.bind_some, M4_firstOf_eq N hu ht, Option.bind_some, fst0 k t, if_pos (by decide), if_pos rfl, M1_at_eq N 10 n hn, Option.bind_some, if_pos (kdo (Or.inl rfl) hn), if_pos hw]
          rfl
        · simp only [M5_person]
          rw [M5_isOne_eq N hp a2, Option.bind_some, if_pos kk, if_pos (by decide), if_neg (by decide), M5_isIn_eq N hw (by decide) (by decide), Option.bind_some, if_pos (show (0 : Int) ≤ 3 ∧ (3 : Int) ≤ 5 by decide), if_pos (by decide), if_neg (by decide), if_pos (ixg hn (by decide)), ix3, h6 3 (by decide)]
      · refine ⟨μ (10 + 2 + n) 4, μ, μ, ?_, ?_, R⟩
        · simp only [M4_person]
          rw [M4_unknown_eq N hp a1 a2, Option.bind_some, M4_other_eq N hw (by decide), Option.bind_some, M4_firstOf_eq N hu ht, Option.bind_some, fst0 k t, if_pos (by decide), if_pos rfl, M1_at_eq N 10 n hn, Option.bind_some, if_pos (kdo (Or.inl rfl) hn), if_pos hw]
          rfl
        · simp only [M5_person]
          rw [M5_isOne_eq N hp a2, Option.bind_some, if_pos kk, if_pos (by decide), if_neg (by decide), M5_isIn_eq N hw (by decide) (by decide), Option.bind_some, if_pos (show (0 : Int) ≤ 4 ∧ (4 : Int) ≤ 5 by decide), if_pos (by decide), if_neg (by decide), if_pos (ixg hn (by decide)), ix4, h6 4 (by decide)]
      · refine ⟨μ (10 + 2 + n) 5, μ, μ, ?_, ?_, R⟩
        · simp only [M4_person]
          rw [M4_unknown_eq N hp a1 a2, Option.bind_some, M4_other_eq N hw (by decide), Option.bind_some, M4_firstOf_eq N hu ht, Option.bind_some, fst0 k t, if_pos (by decide), if_pos rfl, M1_at_eq N 10 n hn, Option.bind_some, if_pos (kdo (Or.inl rfl) hn), if_pos hw]
          rfl
        · simp only [M5_person]
          rw [M5_isOne_eq N hp a2, Option.bind_some, if_pos kk, if_pos (by decide), if_neg (by decide), M5_isIn_eq N hw (by decide) (by decide), Option.bind_some, if_pos (show (0 : Int) ≤ 5 ∧ (5 : Int) ≤ 5 by decide), if_pos (by decide), if_neg (by decide), if_pos (ixg hn (by decide)), ix5, h6 5 (by decide)]
      · refine ⟨needsZ (μ (10 + 2 + n) 0) (μ (10 + 2 + n) 1), μ, μ, ?_, ?_, R⟩
        · simp only [M4_person, M2_needed]
          rw [M4_unknown_eq N hp a1 a2, Option.bind_some, M4_other_eq N hw (by decide), Option.bind_some, M4_firstOf_eq N hu ht, Option.bind_some, fst0 k t, if_pos (by decide), if_pos rfl, M1_at_eq N 10 n hn, Option.bind_some, if_pos (kdo (Or.inl rfl) hn), if_pos hw, M0_needs_eq N hq.1 hq.2.1]
          rfl
        · simp only [M5_person]
          rw [M5_isOne_eq N hp a2, Option.bind_some, if_pos kk, if_pos (by decide), if_neg (by decide), M5_isIn_eq N hw (by decide) (by decide), Option.bind_some, if_neg (show ¬ ((0 : Int) ≤ 6 ∧ (6 : Int) ≤ 5) by decide), if_pos (by decide), if_pos rfl, if_pos hw, if_pos (by decide), M5_needs_eq N 1 n μ hn h6 hq, Option.bind_some]
      · refine ⟨lackZ (μ (10 + 2 + n)), μ, μ, ?_, ?_, R⟩
        · simp only [M4_person]
          rw [M4_unknown_eq N hp a1 a2, Option.bind_some, M4_other_eq N hw (by decide), Option.bind_some, M4_firstOf_eq N hu ht, Option.bind_some, fst0 k t, if_pos (by decide), if_pos rfl, M1_at_eq N 10 n hn, Option.bind_some, if_pos (kdo (Or.inl rfl) hn), if_pos hw, M2_lacking_eq N _ hq]
          rfl
        · simp only [M5_person]
          rw [M5_isOne_eq N hp a2, Option.bind_some, if_pos kk, if_pos (by decide), if_neg (by decide), M5_isIn_eq N hw (by decide) (by decide), Option.bind_some, if_neg (show ¬ ((0 : Int) ≤ 7 ∧ (7 : Int) ≤ 5) by decide), if_pos (by decide), if_pos rfl, if_pos hw, if_neg (by decide), if_pos hw, if_pos (by decide), M5_lacksIn_eq N 1 n μ hn h6 hq]
          rfl
    · obtain ⟨t1, t2⟩ := oth_no t
      refine Op_ref N R (c := -2) (by decide) ?_ ?_
      · simp only [M4_person]
        rw [M4_unknown_eq N hp a1 a2, Option.bind_some, M4_other_eq N hw (by decide), Option.bind_some, M4_firstOf_eq N hu ht, Option.bind_some, fst2 k t, t1, if_pos (by decide), if_neg (by decide), rf4 N (by decide)]
      · intro ν hν
        have r1 : ν 1 = μ 1 := by rw [hν]; exact r4_c (by decide)
        simp only [M5_person]
        rw [M5_isOne_eq N hp (okR_congr a2 r1), Option.bind_some, r1, if_pos kk, if_pos (by decide), if_neg (by decide), M5_isIn_eq N hw (by decide) (by decide), Option.bind_some, if_neg (show ¬ (0 ≤ w ∧ w ≤ 5) by omega), if_pos (by decide), if_pos rfl, if_pos hw, if_neg (show ¬ w = 6 by omega), if_pos hw, if_neg (show ¬ w = 7 by omega), rf5 N (by decide)]
  · obtain ⟨k1, k2⟩ := unkZ_no k
    refine Op_ref N R (c := -1) (by decide) ?_ ?_
    · simp only [M4_person]
      rw [M4_unknown_eq N hp a1 a2, Option.bind_some, M4_other_eq N hw (by decide), Option.bind_some, M4_firstOf_eq N hu ht, Option.bind_some, fst1 k, k1, if_pos (by decide), if_neg (by decide), rf4 N (by decide)]
    · intro ν hν
      have r1 : ν 1 = μ 1 := by rw [hν]; exact r4_c (by decide)
      simp only [M5_person]
      rw [M5_isOne_eq N hp (okR_congr a2 r1), Option.bind_some, r1, if_neg k2, if_pos (by decide), if_pos rfl, rf5 N (by decide)]
/-- only the ROW's part changes -/
theorem Rel_row {μ ν : mm} (R : Rel μ) (h : relW ν) (hc : ∀ a, a ≠ 0 → a ≠ 6 → a ≠ 9 → a ≠ 46 → ν a = μ a) (h0 : ∀ j, j ≠ 9 → ν 0 j = μ 0 j) (h9 : ν 9 10 = μ 9 10) : Rel ν := by
  obtain ⟨⟨a1, a2, a3⟩, ⟨b1, b2⟩, ⟨c1, c2, c3⟩, -, e, f⟩ := R
  have k : ∀ a, a ≠ 0 → a ≠ 6 → a ≠ 9 → a ≠ 46 → ν a = μ a := hc
  have hpn : ∀ p, p < 8 → ν (10 + 2 + p) = μ (10 + 2 + p) := fun p hp => k _ (by omega) (by omega) (by omega) (by omega)
  have hpi : ∀ p, p < 8 → ν (32 + 2 + p) = μ (32 + 2 + p) := fun p hp => k _ (by omega) (by omega) (by omega) (by omega)
  have k1 := k 1 (by decide) (by decide) (by decide) (by decide)
  have k3 := k 3 (by decide) (by decide) (by decide) (by decide)
  refine ⟨⟨relO_congr a1 (k 10 (by decide) (by decide) (by decide) (by decide)) k1 hpn a2.1.2, okR_congr a2 k1, by rw [k1]; exact a3⟩, ⟨by rw [h9, h0 4 (by decide)]; exact b1, ?_⟩, ⟨by rw [k 44 (by decide) (by decide) (by decide) (by decide), h0 8 (by decide)]; exact c1, by rw [h0 8 (by decide)]; exact c2, fun j hj => ?_⟩, h, fun j h1 h6 => ?_, fun q hk => ?_⟩
  · rw [h0 4 (by decide)]
    rcases b2 with b | ⟨b, b3, b4, b5⟩
    · exact Or.inl b
    · exact Or.inr ⟨b, relO_congr b3 (k 32 (by decide) (by decide) (by decide) (by decide)) k3 hpi b4.1.2, okR_congr b4 k3, by rw [k3]; exact b5⟩
  · rw [h0 8 (by decide)] at hj
    rw [k 45 (by decide) (by decide) (by decide) (by decide), k 5 (by decide) (by decide) (by decide) (by decide)]
    exact c3 j hj
  · rw [k 47 (by decide) (by decide) (by decide) (by decide), k 7 (by decide) (by decide) (by decide) (by decide)]
    exact e j h1 h6
  · rw [k 20 (by decide) (by decide) (by decide) (by decide), k 31 (by decide) (by decide) (by decide) (by decide), k 42 (by decide) (by decide) (by decide) (by decide)]
    exact f q hk
theorem op_row (N : Nat) {μ : mm} (R : Rel μ) {v : Int} (hv : inR v) : Op (M4_row N v) (M5_row N v) μ := by
  obtain ⟨-, -, -, ⟨t1, t2, t3⟩, -⟩ := id R
  have ho := outZ_in v 0 99
  have e4 : M4_row N v μ = if outZ v 0 99 = 0 then (if μ 0 9 < 16 then some (μ 0 9 + 1, mu (mu μ 9 9 (μ 0 9 + 1)) 46 (μ 0 9).toNat v) else M4_refused N (-6) μ) else M4_refused N (outZ v 0 99) μ := by
    simp only [M4_row, J4_row_27, bnd]
    rw [M4_outside_eq N hv (by decide) (by decide), Option.bind_some, if_pos (show inR (outZ v 0 99) from by omega), rf4 N ho, rf4 N (by decide), t1, if_pos (show inR (μ 0 9) from by omega), if_pos (show inR (μ 0 9) from by omega), if_pos (show inR (-6) by decide), if_neg (show ¬ (-6 : Int) = 0 by decide)]
    by_cases o : outZ v 0 99 = 0
    · rw [if_pos o, if_pos o]
      by_cases c : μ 0 9 < 16
      · rw [if_pos c, if_pos c, if_pos (show inR (outZ v 0 99) from by omega), if_pos o, if_neg (show ¬ μ 0 9 < 0 by omega), if_neg (show ¬ 16 ≤ μ 0 9 by omega), if_pos (by omega), mu_c (by decide), mu_s, if_pos (show 0 ≤ μ 0 9 ∧ μ 0 9 < 16 by omega)]
      · rw [if_neg c, if_neg c, if_pos o]
    · rw [if_neg o, if_neg o, if_pos (show inR (outZ v 0 99) from by omega), if_neg o]
  have m5 : ∀ ν : mm, ν 0 9 = μ 0 9 → M5_row N v ν = if outZ v 0 99 = 0 then (if μ 0 9 < 16 then some (μ 0 9 + 1, mu (mu ν 6 (μ 0 9).toNat v) 0 9 (μ 0 9 + 1)) else M5_no N (-6) ν) else M5_no N (outZ v 0 99) ν := by
    intro ν hν
    simp only [M5_row, J5_row_24, bnd]
    rw [M5_wrongBy_eq N hv (by decide) (by decide), Option.bind_some, if_pos (show inR (outZ v 0 99) from by omega), rf5 N ho, rf5 N (by decide), hν, if_pos (show inR (μ 0 9) from by omega), if_pos (show inR (-6) by decide), if_neg (show ¬ (-6 : Int) = 0 by decide)]
    by_cases o : outZ v 0 99 = 0
    · rw [if_pos o, if_pos o]
      by_cases c : μ 0 9 < 16
      · rw [if_neg (show ¬ μ 0 9 = 16 by omega), if_pos c, if_pos (show inR (outZ v 0 99) from by omega), if_pos o, if_pos (by omega), mu_s, mu_c (show (0 : Nat) ≠ 6 by decide), hν]
      · rw [if_pos (show μ 0 9 = 16 by omega), if_neg c, if_pos o]
    · rw [if_neg o, if_neg o, if_pos (show inR (outZ v 0 99) from by omega), if_neg o]
  by_cases o : outZ v 0 99 = 0
  · have oo := outZ_0 o
    by_cases f : μ 0 9 < 16
    · refine ⟨μ 0 9 + 1, mu (mu μ 9 9 (μ 0 9 + 1)) 46 (μ 0 9).toNat v, mu (mu (mu (mu μ 9 9 (μ 0 9 + 1)) 46 (μ 0 9).toNat v) 6 (μ 0 9).toNat v) 0 9 (μ 0 9 + 1), ?_, ?_, ?_⟩
      · rw [e4, if_pos o, if_pos f]
      · rw [m5 _ (by rw [mu_c (by decide), mu_c (by decide)]), if_pos o, if_pos f]
      · refine Rel_row R ⟨?_, ?_, ?_⟩ ?_ ?_ ?_
        · unfold mu; repeat' split
          all_goals first | rfl | omega
        · have e : ∀ x : mm, mu x 0 9 (μ 0 9 + 1) 0 9 = μ 0 9 + 1 := fun x => mu_s
          rw [e]; omega
        · intro i hi
          have e : ∀ x : mm, mu x 0 9 (μ 0 9 + 1) 0 9 = μ 0 9 + 1 := fun x => mu_s
          rw [e] at hi
          rw [mu_c (by decide), mu_c (by decide), mu_c (show 6 ≠ 0 by decide)]
          by_cases q : i = (μ 0 9).toNat
          · subst q
            rw [mu_s, mu_s]
            exact ⟨rfl, oo⟩
          · rw [mu_j q, mu_c (by decide), mu_j q, mu_c (by decide), mu_c (by decide)]
            exact t3 i (by omega)
        · intro a h0 h6 h9 h46
          funext b
          rw [mu_c h0, mu_c h6, mu_c h46, mu_c h9]
        · intro i hi
          rw [mu_j hi, mu_c (by decide), mu_c (by decide), mu_c (by decide)]
        · rw [mu_c (by decide), mu_c (by decide), mu_c (by decide), mu_j (by decide)]
    · exact Op_ref N R (c := -6) (by decide) (by rw [e4, if_pos o, if_neg f]) (fun ν hν => by rw [m5 ν (by rw [hν, r4_c (by decide)]), if_pos o, if_neg f])
  · exact Op_ref N R (c := outZ v 0 99) (by omega) (by rw [e4, if_neg o]) (fun ν hν => by rw [m5 ν (by rw [hν, r4_c (by decide)]), if_neg o])
/-- the ROW emptied on both sides -/
theorem Rel_row0 {μ : mm} (R : Rel μ) : Rel (mu (mu μ 9 9 0) 0 9 0) := by
  refine Rel_row R ⟨?_, ?_, ?_⟩ ?_ ?_ ?_
  · rw [mu_c (by decide), mu_s, mu_s]
  · rw [mu_s]; decide
  · intro j hj
    rw [mu_s] at hj
    omega
  · intro a h0 h6 h9 h46
    funext b
    rw [mu_c h0, mu_c h9]
  · intro i hi
    rw [mu_j hi, mu_c (by decide)]
  · rw [mu_c (by decide), mu_j (by decide)]
theorem op_clear (N : Nat) {μ : mm} (R : Rel μ) : Op (M4_clear N) (M5_clear N) μ := by
  obtain ⟨-, -, -, ⟨t1, t2, t3⟩, -⟩ := id R
  refine ⟨μ 0 9, mu μ 9 9 0, mu (mu μ 9 9 0) 0 9 0, ?_, ?_, Rel_row0 R⟩
  · simp only [M4_clear, bnd]
    rw [t1]
  · simp only [M5_clear, bnd]
    rw [mu_c (by decide)]
theorem op_judge_loop (N : Nat) {μ ν : mm} (R1 : relO 10 1 μ) (ok : okR μ 1) (W : relW μ) (h1 : ν 1 = μ 1) (h6 : ν 6 = μ 6) : ∀ (k i : Nat), (i : Int) ≤ μ 0 9 → μ 0 9 < (i : Int) + k → ∃ r, L4_judge_5 N k (-9) (i : Int) μ = some (r, mu μ 9 9 0) ∧ L5_judge_12 N k (μ 0 9) (i : Int) ν = some (r, ν) := by
  have hm := ok.1
  have e := R1.1
  obtain ⟨t1, t2, t3⟩ := W
  have ok' := okR_congr ok h1
  intro k
  induction k with
  | zero => intro p h1 h2; omega
  | succ k ih =>
    intro i hi hk
    rw [L4_judge_5, L5_judge_12, t1, if_pos (show inR (i : Int) ∧ inR (μ 0 9) from by omega), if_pos (show inR (i : Int) ∧ inR (μ 0 9) from by omega)]
    by_cases c : μ 0 9 ≤ (i : Int)
    · rw [if_pos c, if_pos c]
      exact ⟨-9, rfl, rfl⟩
    · have stop : ∀ j : Nat, L4_judge_5 N k (j : Int) ((j : Int) + 1) μ = some ((j : Int), mu μ 9 9 0) ∨ ¬ j = i := by
        intro j
        by_cases q : j = i
        · subst q
          left
          obtain ⟨k', rfl⟩ : ∃ k', k = k' + 1 := ⟨k - 1, by omega⟩
          rw [L4_judge_5, t1, if_pos (show inR ((j : Int) + 1) ∧ inR (μ 0 9) from by omega), if_pos (show inR ((j : Int) + 1) from by omega), if_pos (show inR (j : Int) from by omega), if_pos (show 0 ≤ (j : Int) by omega)]
          split
          · rfl
          · split <;> rfl
        · exact Or.inr q
      have stop' : L4_judge_5 N k (i : Int) ((i : Int) + 1) μ = some ((i : Int), mu μ 9 9 0) := (stop i).resolve_right (fun h => h rfl)
      have gi : inR (i : Int) := by omega
      rw [if_neg c, if_neg c, if_pos gi, if_neg (show ¬ 16 ≤ (i : Int) by omega), if_pos (show inR (-9) by decide), if_neg (by decide), M1_knows_eq N 10 gi (by rw [e]; exact hm), e, Option.bind_some, M5_isOne_eq N gi ok', Option.bind_some, h1, h6]
      simp only [J4_judge_57, J4_judge_59]
      by_cases d : 0 ≤ (i : Int) ∧ (i : Int) < μ 1 0
      · have hn : i < 8 := by omega
        have hq := (offP R1 ok d.2).2.2.2.1
        have hf := R1.2.2.2.2 i d.2 3 (by decide)
        have hw := t3 i (by omega)
        rw [if_pos d, if_pos (by decide), if_neg (by decide), if_pos (by decide), if_neg (by decide), M1_at_eq N 10 i hn, Option.bind_some, if_pos (kdo (Or.inl rfl) hn), if_pos (show 0 ≤ (i : Int) ∧ (i : Int) < 16 by omega), if_pos (show 0 ≤ (i : Int) ∧ (i : Int) < 16 by omega), if_pos (ixg hn (by decide)), ix3, hf, show ((i : Int)).toNat = i from rfl, hw.1, if_pos (show inR (μ (10 + 2 + i) 3) ∧ inR (μ 6 i) from by omega), if_pos (show inR (μ (10 + 2 + i) 3) ∧ inR (μ 6 i) from by omega)]
        by_cases f : μ (10 + 2 + i) 3 = μ 6 i
        · rw [if_pos f, if_pos f]
          exact ih (i + 1) (by omega) (by omega)
        · rw [if_neg f, if_neg f]
          exact ⟨i, stop', rfl⟩
      · rw [if_neg d, if_pos (by decide), if_pos rfl, if_pos (by decide), if_pos rfl]
        exact ⟨i, stop', rfl⟩
theorem op_judge (N : Nat) (hN : 17 ≤ N) {μ : mm} (R : Rel μ) : Op (M4_judge N) (M5_judge N) μ := by
  obtain ⟨⟨a1, a2, a3⟩, -, -, W, -⟩ := id R
  have h2 := W.2.1
  obtain ⟨r, e1, e2⟩ := op_judge_loop N (ν := mu (mu μ 9 9 0) 0 9 0) a1 a2 W (by funext b; rw [mu_c (by decide), mu_c (by decide)]) (by funext b; rw [mu_c (by decide), mu_c (by decide)]) N 0 (by omega) (by omega)
  refine ⟨r, mu μ 9 9 0, mu (mu μ 9 9 0) 0 9 0, e1, ?_, Rel_row0 R⟩
  simp only [M5_judge, bnd]
  rw [show mu μ 9 9 0 0 9 = μ 0 9 from mu_c (by decide)]
  exact e2
theorem count_loop (N : Nat) {μ : mm} (R1 : relO 10 1 μ) (ok : okR μ 1) : ∀ (k p : Nat) (x : Int), (p : Int) ≤ μ 1 0 → μ 1 0 < (p : Int) + k → ∃ r, L1_allWithMatter_4 N k 10 x (p : Int) μ = some r ∧ L5_count_90 N k x (p : Int) μ = some r := by
  have hm := ok.1
  have e := R1.1
  intro k
  induction k with
  | zero => intro p x h1 h2; omega
  | succ k ih =>
    intro p x h1 h2
    have gg : inR (p : Int) ∧ inR (μ 1 0) := by omega
    rw [L1_allWithMatter_4, L5_count_90, e, if_pos gg, if_pos gg]
    by_cases c : μ 1 0 ≤ (p : Int)
    · rw [if_pos c, if_pos c]
      exact ⟨x, rfl, rfl⟩
    · have hp : p < 8 := by omega
      have hq := (offP R1 ok (n := p) (by omega)).2.2.2.1
      have hf := R1.2.2.2.2 p (by omega) 3 (by decide)
      rw [if_neg c, if_neg c, M1_at_eq N 10 p hp, Option.bind_some, if_pos (kdo (Or.inl rfl) hp), if_pos (ixg hp (by decide)), ix3, hf, if_pos (show inR (μ (10 + 2 + p) 3) from by omega), if_pos (show inR (μ (10 + 2 + p) 3) from by omega)]
      simp only [J1_allWithMatter_26, J5_count_119, bnd]
      by_cases d : μ (10 + 2 + p) 3 ≤ 0
      · rw [if_pos d, if_pos d, show x + 0 = x by omega]
        exact ih (p + 1) x (by omega) (by omega)
      · rw [if_neg d, if_neg d]
        exact ih (p + 1) (x + 1) (by omega) (by omega)
theorem op_count (N : Nat) (hN : 9 ≤ N) {μ : mm} (R : Rel μ) {w : Int} (hw : inR w) : OpR (M4_count N w) (M5_count N w) μ := by
  obtain ⟨⟨a1, a2, a3⟩, -, ⟨c1, -⟩, ⟨d1, -⟩, e, -⟩ := id R
  have hm := a2.1
  by_cases c : 11 ≤ w ∧ w ≤ 16
  · obtain ⟨j, hj⟩ := Int.eq_ofNat_of_zero_le (show 0 ≤ w - 10 by omega)
    refine ⟨μ 7 j, ?_, ?_⟩
    · simp only [M4_count, bnd]
      rw [if_pos hw, if_neg (show ¬ w < 11 by omega), if_pos hw, if_neg (show ¬ 16 < w by omega), if_pos (show inR (w - 10) from by omega), if_neg (show ¬ 7 ≤ w - 10 by omega), if_pos (show 0 ≤ w - 10 ∧ w - 10 < 7 by omega), hj, show ((j : Int)).toNat = j from rfl, e j (by omega) (by omega)]
    · simp only [M5_count]
      rw [M5_isIn_eq N hw (by decide) (by decide), Option.bind_some, if_pos c, if_pos (by decide), if_neg (by decide), if_pos (show 0 ≤ w - 10 ∧ w - 10 < 7 by omega), hj, show ((j : Int)).toNat = j from rfl]
  · have e4 : M4_count N w μ = J4_count_37 N w μ := by
      simp only [M4_count]
      rw [if_pos hw]
      by_cases d : w < 11
      · rw [if_pos d]
      · rw [if_neg d, if_pos hw, if_pos (show 16 < w by omega)]
    unfold OpR
    rw [e4]
    simp only [J4_count_37, M5_count]
    rw [M5_isIn_eq N hw (by decide) (by decide), Option.bind_some, if_neg c, if_pos (show inR 0 by decide), if_pos rfl, if_pos hw, if_pos hw]
    by_cases c0 : w = 0
    · rw [if_pos c0, if_pos c0, if_pos (by omega), c0]
      exact ⟨_, rfl, by rw [a1.1]; rfl⟩
    · rw [if_neg c0, if_neg c0]
      by_cases c1' : w = 1
      · rw [if_pos c1', if_pos c1', if_pos (by omega), c1']
        exact ⟨_, rfl, by rw [a1.2.2.2.1]; rfl⟩
      · rw [if_neg c1', if_neg c1']
        by_cases c2 : w = 2
        · rw [if_pos c2, if_pos c2, if_pos (by omega), c2]
          exact ⟨_, rfl, by rw [a1.2.1]; rfl⟩
        · rw [if_neg c2, if_neg c2]
          by_cases c3 : w = 3
          · rw [if_pos c3, if_pos c3, if_pos (by omega), c3]
            exact ⟨_, rfl, by rw [a1.2.2.1]; rfl⟩
          · rw [if_neg c3, if_neg c3]
            by_cases c4 : w = 4
            · have e2 := M5_allOf_eq N 1 2 (by decide) hN (μ := μ) hm
              rw [show ((2 : Nat) : Int) = 2 from rfl] at e2
              rw [if_pos c4, if_pos c4, M1_allHas_eq N (Or.inl rfl) hN (by rw [a1.1]; exact hm), Option.bind_some, e2, Option.bind_some, sum_one a1 2 (by decide)]
              exact ⟨_, rfl, rfl⟩
            · rw [if_neg c4, if_neg c4]
              by_cases c5 : w = 5
              · obtain ⟨r, f1, f2⟩ := count_loop N a1 a2 N 0 0 (by omega) (by omega)
                rw [if_pos c5, if_pos c5, M1_allWithMatter]
                exact ⟨r, by rw [show ((0 : Nat) : Int) = 0 from rfl] at f1; rw [f1]; rfl, f2⟩
              · rw [if_neg c5, if_neg c5]
                by_cases c6 : w = 6
                · rw [if_pos c6, if_pos c6, d1]
                  exact ⟨_, rfl, rfl⟩
                · rw [if_neg c6, if_neg c6]
                  by_cases c7 : w = 7
                  · rw [if_pos c7, if_pos c7, c1]
                    exact ⟨_, rfl, rfl⟩
                  · rw [if_neg c7, if_neg c7]
                    exact ⟨_, rfl, rfl⟩
end
section
/-! copies on the class's side; image and on -/
def tkP (o a : Nat) (μ : mm) : mm := fun x y => if x = o ∧ y < 8 then (if y < 6 then μ a y else 0) else μ x y
theorem M2_takeFrom_eq (N : Nat) {o a : Nat} (h : a ≠ o) (μ : mm) : M2_takeFrom N o a μ = some (tkP o a μ) := by
  simp only [M2_takeFrom, bnd]
  have e : ∀ (ν : mm) (j y : Nat) (v : Int), mu ν o j v a y = ν a y := fun _ _ _ _ => mu_c h
  simp only [e]
  congr 1
  funext x y
  by_cases hx : x = o
  · subst hx
    have hy : y = 0 ∨ y = 1 ∨ y = 2 ∨ y = 3 ∨ y = 4 ∨ y = 5 ∨ y = 6 ∨ y = 7 ∨ 8 ≤ y := by omega
    unfold tkP
    rcases hy with rfl | rfl | rfl | rfl | rfl | rfl | rfl | rfl | hy
    · simp [mu]
    · simp [mu]
    · simp [mu]
    · simp [mu]
    · simp [mu]
    · simp [mu]
    · simp [mu]
    · simp [mu]
    · rw [if_neg (by omega)]
      repeat rw [mu_j (by omega)]
  · unfold tkP
    rw [if_neg (fun z => hx z.1)]
    repeat rw [mu_c hx]
def tkN (o a i : Nat) (μ : mm) : mm := fun x y => if x = o ∧ 2 ≤ y ∧ y ≤ 5 then μ a y else if o + 2 ≤ x ∧ x < o + 2 + i ∧ y < 8 then (if y < 6 then μ (a + (x - o)) y else 0) else μ x y
theorem tkN_c {o a i x : Nat} {μ : mm} (h : x ≠ o) (hx : x < o + 2 ∨ o + 2 + i ≤ x) : tkN o a i μ x = μ x := by
  funext y
  unfold tkN
  rw [if_neg (by omega), if_neg (by omega)]
theorem tkN_sc {o a i y : Nat} {μ : mm} (h : 2 ≤ y ∧ y ≤ 5) : tkN o a i μ o y = μ a y := by
  unfold tkN
  rw [if_pos ⟨rfl, h⟩]
theorem tkN_at {o a i p y : Nat} {μ : mm} (h : p < i) (hy : y < 6) : tkN o a i μ (o + 2 + p) y = μ (a + 2 + p) y := by
  unfold tkN
  rw [if_neg (by omega), if_pos (by omega), if_pos hy, show a + (o + 2 + p - o) = a + 2 + p by omega]
theorem tkN_z {o a i p y : Nat} {μ : mm} (h : p < i) (hy : 6 ≤ y) (hy8 : y < 8) : tkN o a i μ (o + 2 + p) y = 0 := by
  unfold tkN
  rw [if_neg (by omega), if_pos (by omega), if_neg (by omega)]
theorem tkN_step {o a i : Nat} {μ : mm} (hd : a + 11 ≤ o ∨ o + 11 ≤ a) (hi : i < 8) : tkP (o + 2 + i) (a + 2 + i) (tkN o a i μ) = tkN o a (i + 1) μ := by
  have e : tkN o a i μ (a + 2 + i) = μ (a + 2 + i) := tkN_c (by omega) (by omega)
  funext x y
  unfold tkP
  rw [e]
  by_cases hx : x = o + 2 + i
  · subst hx
    by_cases hy : y < 8
    · rw [if_pos ⟨rfl, hy⟩]
      unfold tkN
      rw [if_neg (show ¬ (o + 2 + i = o ∧ 2 ≤ y ∧ y ≤ 5) by omega), if_pos (show o + 2 ≤ o + 2 + i ∧ o + 2 + i < o + 2 + (i + 1) ∧ y < 8 by omega), show a + (o + 2 + i - o) = a + 2 + i by omega]
    · rw [if_neg (by omega)]
      unfold tkN
      rw [if_neg (by omega), if_neg (by omega), if_neg (by omega), if_neg (by omega)]
  · rw [if_neg (by omega)]
    unfold tkN
    by_cases c : x = o ∧ 2 ≤ y ∧ y ≤ 5
    · rw [if_pos c, if_pos c]
    · rw [if_neg c, if_neg c]
      by_cases d : o + 2 ≤ x ∧ x < o + 2 + i ∧ y < 8
      · rw [if_pos d, if_pos (show o + 2 ≤ x ∧ x < o + 2 + (i + 1) ∧ y < 8 by omega)]
      · rw [if_neg d, if_neg (by omega)]
def isO (o : Nat) : Prop := o = 10 ∨ o = 21 ∨ o = 32
theorem isO_far {o a : Nat} (ho : isO o) (ha : isO a) (h : a ≠ o) : a + 11 ≤ o ∨ o + 11 ≤ a := by unfold isO at ho ha; omega
theorem M1_takeFrom_loop (N : Nat) {o a : Nat} (ho : isO o) (ha : isO a) (hab : a ≠ o) {μ : mm} (hm : 0 ≤ μ a 2 ∧ μ a 2 ≤ 8) : ∀ (k i : Nat), (i : Int) ≤ μ a 2 → μ a 2 < (i : Int) + k → L1_takeFrom_34 N k o a (i : Int) (tkN o a i μ) = some (tkN o a (μ a 2).toNat μ) := by
  have hd := isO_far ho ha hab
  intro k
  induction k with
  | zero => intro i h1 h2; omega
  | succ k ih =>
    intro i h1 h2
    rw [L1_takeFrom_34, tkN_sc (show 2 ≤ 2 ∧ 2 ≤ 5 by decide), if_pos (show inR (i : Int) ∧ inR (μ a 2) from by omega)]
    by_cases c : μ a 2 ≤ (i : Int)
    · rw [if_pos c, show i = (μ a 2).toNat by omega]
    · have hi : i < 8 := by omega
      rw [if_neg c, M1_at_eq N o i hi, Option.bind_some, if_pos (kdO ho hi), M1_at_eq N a i hi, Option.bind_some, if_pos (kdO ha hi), M2_takeFrom_eq N (by omega), Option.bind_some, tkN_step hd hi]
      exact ih (i + 1) (by omega) (by omega)
theorem tkN_0 (o a : Nat) (μ : mm) (hao : a ≠ o) : mu (mu (mu (mu μ o 2 (μ a 2)) o 3 (μ a 3)) o 4 (μ a 4)) o 5 (μ a 5) = tkN o a 0 μ := by
  funext x y
  by_cases hx : x = o
  · subst hx
    have hy : y = 2 ∨ y = 3 ∨ y = 4 ∨ y = 5 ∨ ¬ (2 ≤ y ∧ y ≤ 5) := by omega
    unfold tkN
    rcases hy with rfl | rfl | rfl | rfl | hy
    · simp [mu]
    · simp [mu]
    · simp [mu]
    · simp [mu]
    · rw [if_neg (fun z => hy z.2), if_neg (by omega), mu_j (by omega), mu_j (by omega), mu_j (by omega), mu_j (by omega)]
  · unfold tkN
    rw [if_neg (fun z => hx z.1), if_neg (by omega), mu_c hx, mu_c hx, mu_c hx, mu_c hx]
theorem M1_takeFrom_eq (N : Nat) {o a : Nat} (ho : isO o) (ha : isO a) (hab : a ≠ o) {μ : mm} (hN : 9 ≤ N) (hm : 0 ≤ μ a 2 ∧ μ a 2 ≤ 8) : M1_takeFrom N o a μ = some (tkN o a (μ a 2).toNat μ) := by
  simp only [M1_takeFrom, bnd]
  have e : ∀ (ν : mm) (j y : Nat) (v : Int), mu ν o j v a y = ν a y := fun _ _ _ _ => mu_c hab
  simp only [e]
  rw [tkN_0 o a μ hab]
  exact M1_takeFrom_loop N ho ha hab hm N 0 (by omega) (by omega)
theorem tk_rel {o a r : Nat} {μ ν : mm} (ho : isO o) (hr : r < 10) (R : relO a r μ) (hm : 0 ≤ μ r 0 ∧ μ r 0 ≤ 8) (hν : ∀ x, o ≤ x → x < o + 10 → ν x = tkN o a (μ a 2).toNat μ x) {r' : Nat} (hr' : ∀ j, j < 52 → ν r' j = μ r j) : relO o r' ν := by
  obtain ⟨r1, r2, r3, r4, r5⟩ := R
  have h0 := hν o (by omega) (by omega)
  refine ⟨by rw [h0, tkN_sc (by decide), hr' 0 (by decide)]; exact r1, by rw [h0, tkN_sc (by decide), hr' 2 (by decide)]; exact r2, by rw [h0, tkN_sc (by decide), hr' 3 (by decide)]; exact r3, by rw [h0, tkN_sc (by decide), hr' 1 (by decide)]; exact r4, fun p hp => ?_⟩
  rw [hr' 0 (by decide)] at hp
  intro k hk
  rw [hr' _ (by omega), hν (o + 2 + p) (by omega) (by omega), tkN_at (by omega) hk]
  exact r5 p hp k hk
/-- only the image's part changes -/
theorem Rel_img {μ ν : mm} (R : Rel μ) (hI : relI ν) (hc : ∀ a, a ≠ 0 → a ≠ 3 → a ≠ 9 → (a < 32 ∨ 42 ≤ a) → ν a = μ a) (h0 : ∀ j, j ≠ 4 → ν 0 j = μ 0 j) (h9 : ∀ j, j ≠ 10 → ν 9 j = μ 9 j) : Rel ν := by
  obtain ⟨⟨a1, a2, a3⟩, -, ⟨c1, c2, c3⟩, ⟨d1, d2, d3⟩, e, f⟩ := R
  have hpn : ∀ p, p < 8 → ν (10 + 2 + p) = μ (10 + 2 + p) := fun p hp => hc _ (by omega) (by omega) (by omega) (by omega)
  have k1 := hc 1 (by decide) (by decide) (by decide) (by decide)
  refine ⟨⟨relO_congr a1 (hc 10 (by decide) (by decide) (by decide) (by decide)) k1 hpn a2.1.2, okR_congr a2 k1, by rw [k1]; exact a3⟩, hI, ⟨by rw [hc 44 (by decide) (by decide) (by decide) (by decide), h0 8 (by decide)]; exact c1, by rw [h0 8 (by decide)]; exact c2, fun j hj => ?_⟩, ⟨by rw [h9 9 (by decide), h0 9 (by decide)]; exact d1, by rw [h0 9 (by decide)]; exact d2, fun j hj => ?_⟩, fun j h1 h6 => ?_, fun q hk => ?_⟩
  · rw [h0 8 (by decide)] at hj
    rw [hc 45 (by decide) (by decide) (by decide) (by decide), hc 5 (by decide) (by decide) (by decide) (by decide)]
    exact c3 j hj
  · rw [h0 9 (by decide)] at hj
    rw [hc 46 (by decide) (by decide) (by decide) (by decide), hc 6 (by decide) (by decide) (by decide) (by decide)]
    exact d3 j hj
  · rw [hc 47 (by decide) (by decide) (by decide) (by decide), hc 7 (by decide) (by decide) (by decide) (by decide)]
    exact e j h1 h6
  · rw [hc 20 (by decide) (by decide) (by decide) (by decide), hc 31 (by decide) (by decide) (by decide) (by decide), hc 42 (by decide) (by decide) (by decide) (by decide)]
    exact f q hk
theorem cp_row {a b x : Nat} {μ : mm} (h : x ≠ b) : cp a b μ x = μ x := funext fun _ => cp_c h
theorem mu_row {μ : mm} {i j a : Nat} {v : Int} (h : a ≠ i) : mu μ i j v a = μ a := funext fun _ => mu_c h
theorem okR_row {r r' : Nat} {μ ν : mm} (h : okR μ r) (hr : ∀ j, j < 52 → ν r' j = μ r j) : okR ν r' := by
  obtain ⟨o1, o2, o3, o4, o5⟩ := h
  refine ⟨by rw [hr 0 (by decide)]; exact o1, by rw [hr 1 (by decide)]; exact o2, by rw [hr 2 (by decide)]; exact o3, by rw [hr 3 (by decide)]; exact o4, fun p hp => ?_⟩
  rw [hr 0 (by decide)] at hp
  have hk := o5 p hp
  have e : ∀ k, k < 6 → pq ν r' p k = pq μ r p k := fun k hk => hr _ (by omega)
  unfold okP at hk ⊢
  rw [e 0 (by decide), e 1 (by decide), e 2 (by decide), e 3 (by decide), e 4 (by decide), e 5 (by decide)]
  exact hk
theorem op_image (N : Nat) (hN : 53 ≤ N) {μ : mm} (R : Rel μ) : Op (M4_image N) (M5_image N) μ := by
  obtain ⟨⟨a1, a2, a3⟩, -⟩ := id R
  have hm := a2.1
  have e := a1.1
  have en : (μ 10 2).toNat ≤ 8 := by omega
  refine ⟨μ 1 1, mu (tkN 32 10 (μ 10 2).toNat μ) 9 10 1, mu (cp 1 3 (mu (tkN 32 10 (μ 10 2).toNat μ) 9 10 1)) 0 4 1, ?_, ?_, ?_⟩
  · simp only [M4_image, bnd]
    rw [M1_takeFrom_eq N (Or.inr (Or.inr rfl)) (Or.inl rfl) (by decide) (by omega) (by rw [e]; exact hm), Option.bind_some, mu_c (by decide), tkN_c (by decide) (by omega), a1.2.2.2.1]
  · simp only [M5_image, bnd]
    rw [M5_copies_eq N 1 3 hN (by decide), Option.bind_some, mu_c (by decide), cp_c (by decide), mu_c (by decide), tkN_c (by decide) (by omega)]
  · have h3 : ∀ j, j < 52 → mu (cp 1 3 (mu (tkN 32 10 (μ 10 2).toNat μ) 9 10 1)) 0 4 1 3 j = μ 1 j := by
      intro j hj
      rw [mu_c (by decide), cp_to hj, mu_c (by decide), tkN_c (by decide) (by omega)]
    refine Rel_img R ⟨?_, Or.inr ⟨mu_s, ?_, ?_, ?_⟩⟩ ?_ ?_ ?_
    · rw [mu_c (by decide), cp_c (by decide), mu_s, mu_s]
    · refine tk_rel (o := 32) (a := 10) (r := 1) (Or.inr (Or.inr rfl)) (by decide) a1 hm (fun x h1 h2 => ?_) h3
      rw [mu_row (by omega), cp_row (by omega), mu_row (by omega)]
    · exact okR_row a2 h3
    · rw [h3 1 (by decide)]; exact a3
    · intro a h0 h3 h9 h32
      rw [mu_row h0, cp_row h3, mu_row h9, tkN_c (by omega) (by omega)]
    · intro j hj
      rw [mu_j hj, cp_c (by decide), mu_c (by decide), tkN_c (by decide) (by omega)]
    · intro j hj
      rw [mu_c (by decide), cp_c (by decide), mu_j hj, tkN_c (by decide) (by omega)]
theorem op_on (N : Nat) (hN : 53 ≤ N) {μ : mm} (R : Rel μ) : Op (M4_on N) (M5_on N) μ := by
  obtain ⟨⟨a1, a2, a3⟩, ⟨b1, b2⟩, -⟩ := id R
  rcases b2 with b | ⟨b, b3, b4, b5⟩
  · refine Op_ref N R (c := -3) (by decide) ?_ (fun ν hν => ?_)
    · simp only [M4_on]
      rw [b1, b, if_pos (by decide), if_pos rfl, rf4 N (by decide)]
    · simp only [M5_on]
      rw [show ν 0 4 = 0 by rw [hν, r4_c (by decide)]; exact b, if_pos (by decide), if_pos rfl, rf5 N (by decide)]
  · have hm := b4.1
    have e := b3.1
    have en : (μ 32 2).toNat ≤ 8 := by omega
    have h1 : ∀ j, j < 52 → cp 3 1 (tkN 10 32 (μ 32 2).toNat μ) 1 j = μ 3 j := by
      intro j hj
      rw [cp_to hj, tkN_c (by decide) (by omega)]
    refine ⟨μ 3 1, tkN 10 32 (μ 32 2).toNat μ, cp 3 1 (tkN 10 32 (μ 32 2).toNat μ), ?_, ?_, ?_⟩
    · simp only [M4_on]
      rw [b1, b, if_pos (by decide), if_neg (by decide), M1_takeFrom_eq N (Or.inl rfl) (Or.inr (Or.inr rfl)) (by decide) (by omega) (by rw [e]; exact hm), Option.bind_some, tkN_sc (by decide), b3.2.2.2.1]
    · simp only [M5_on]
      rw [tkN_c (by decide) (by omega), b, if_pos (by decide), if_neg (by decide), M5_copies_eq N 3 1 hN (by decide), Option.bind_some, h1 1 (by decide)]
    · refine Rel_off R ⟨?_, ?_, ?_⟩ ?_
      · refine tk_rel (o := 10) (a := 32) (r := 3) (Or.inl rfl) (by decide) b3 hm (fun x h1 h2 => ?_) h1
        rw [cp_row (by omega)]
      · exact okR_row b4 h1
      · rw [h1 1 (by decide)]; exact b5
      · intro a h1 h10 hx
        rw [cp_row h1, tkN_c h10 (by omega)]
end
section
/-! a day on the class's side -/
def thrP (q : Nat → Int) : Int := if q 3 = 1 ∧ needsZ (q 0) (q 1) ≤ q 2 then 1 else 0
def shoP (q : Nat → Int) : Int := if q 3 = 1 ∧ ¬ needsZ (q 0) (q 1) ≤ q 2 then 1 else 0
def dayC (q : Nat → Int) : Nat → Int := fun k => if k = 6 then q 6 + thrP q else if k = 7 then q 7 + shoP q else dayP q k
def putC (μ : mm) (c : Nat) (q : Nat → Int) : mm := fun x y => if x = c then q y else μ x y
theorem dayC_p {q : Nat → Int} {k : Nat} (h : k < 6) : dayC q k = dayP q k := by unfold dayC; rw [if_neg (by omega), if_neg (by omega)]
theorem M0_nextIn_eq (N : Nat) {k : Int} (h : 0 ≤ k ∧ k ≤ 5) (μ : mm) : M0_nextIn N k μ = some (nextZ k) := by
  unfold M0_nextIn nextZ
  rw [if_pos (show inR k from by omega)]
  repeat' split
  all_goals first | rfl | omega
theorem M0_wears_eq (N : Nat) {k f : Int} (h : 0 ≤ k ∧ k ≤ 5) (hf : 0 ≤ f ∧ f ≤ 9) (μ : mm) : M0_wears N k (needsZ k f) μ = some (wearsZ k f) := by
  have hn := needsZ_in (k := k) hf
  unfold M0_wears wearsZ
  rw [if_pos (show inR k from by omega), if_pos (show 0 ≤ needsZ k f ∧ inR (needsZ k f) from by omega), if_pos (show 0 ≤ needsZ k f ∧ inR (needsZ k f) from by omega)]
  repeat' split
  all_goals first | rfl | omega
theorem putC_row {μ : mm} {c x : Nat} {q : Nat → Int} (h : x ≠ c) : putC μ c q x = μ x := by
  funext y
  unfold putC
  rw [if_neg h]
theorem putC_s {μ : mm} {c : Nat} {q : Nat → Int} : putC μ c q c = q := by
  funext y
  unfold putC
  rw [if_pos rfl]
theorem M2_oneDay_eq (N c : Nat) {μ : mm} (h : okP (μ c)) : M2_oneDay N c μ = some (dgone (μ c), putC μ c (dayC (μ c))) := by
  have hn := needsZ_in (k := μ c 0) h.2.1
  have hw := wearsZ_in (k := μ c 0) h.2.1
  have hg := goneP_in h
  obtain ⟨h0, h1, h2, h3, h4, h5⟩ := id h
  simp only [M2_oneDay, J2_oneDay_131, bnd]
  rw [if_pos (show inR (μ c 3) from by omega)]
  by_cases a : μ c 3 = 0
  · rw [if_pos a]
    have e : putC μ c (dayC (μ c)) = μ := by
      funext x y
      unfold putC
      by_cases hx : x = c
      · subst hx
        rw [if_pos rfl]
        unfold dayC thrP shoP dayP
        rw [if_neg (show ¬ (μ x 3 = 1 ∧ needsZ (μ x 0) (μ x 1) ≤ μ x 2) by omega), if_neg (show ¬ (μ x 3 = 1 ∧ ¬ needsZ (μ x 0) (μ x 1) ≤ μ x 2) by omega), if_pos a]
        repeat' split
        all_goals simp_all
      · rw [if_neg hx]
    rw [e, show dgone (μ c) = 0 from if_neg (by omega)]
  · rw [if_neg a, mu_s, if_pos (show inR (μ c 3 - 1) from by omega)]
    by_cases b : μ c 3 = 1
    · rw [if_pos (show μ c 3 - 1 ≤ 0 by omega), mu_j (show (0 : Nat) ≠ 3 by decide), mu_j (show (1 : Nat) ≠ 3 by decide), M0_needs_eq N h0 h1, Option.bind_some, mu_j (show (2 : Nat) ≠ 3 by decide), if_pos (show inR (μ c 2) ∧ inR (needsZ (μ c 0) (μ c 1)) from by omega)]
      by_cases d : μ c 2 < needsZ (μ c 0) (μ c 1)
      · rw [if_pos d]
        simp only [mu_s, mu_j, ne_eq, not_false_eq_true, Nat.reduceEqDiff]
        rw [if_pos (show inR (μ c 5 + 1) from by omega), M0_nextIn_eq N h0, Option.bind_some, show dgone (μ c) = 0 from by unfold dgone goneP; rw [if_pos b, if_neg (by omega)]]
        congr 2
        funext x y
        unfold putC
        by_cases hx : x = c
        · subst hx
          rw [if_pos rfl]
          unfold dayC thrP shoP dayP
          rw [if_neg (show ¬ (μ x 3 = 1 ∧ needsZ (μ x 0) (μ x 1) ≤ μ x 2) by omega), if_pos (show (μ x 3 = 1 ∧ ¬ needsZ (μ x 0) (μ x 1) ≤ μ x 2) by omega), if_neg a, if_pos b]
          unfold meetP goneP
          rw [if_neg (show ¬ needsZ (μ x 0) (μ x 1) ≤ μ x 2 by omega), if_neg (show ¬ needsZ (μ x 0) (μ x 1) ≤ μ x 2 by omega), if_neg (show ¬ needsZ (μ x 0) (μ x 1) ≤ μ x 2 by omega)]
          have hy : y = 0 ∨ y = 1 ∨ y = 2 ∨ y = 3 ∨ y = 4 ∨ y = 5 ∨ y = 6 ∨ y = 7 ∨ 8 ≤ y := by omega
          rcases hy with rfl | rfl | rfl | rfl | rfl | rfl | rfl | rfl | hy
          · simp [mu]
          · simp [mu]
          · simp [mu]
          · simp [mu]
          · simp [mu]
          · simp only [mu_s, mu_j, ne_eq, not_false_eq_true, Nat.reduceEqDiff]
            show (if 999 < μ x 5 + 1 then 999 else μ x 5 + 1) = min 999 (μ x 5 + 1)
            split <;> omega
          · simp [mu]
          · simp [mu]
          · rw [if_neg (show ¬ y = 6 by omega), if_neg (show ¬ y = 7 by omega), if_neg (show ¬ y = 2 by omega), if_neg (show ¬ y = 3 by omega), if_neg (show ¬ y = 4 by omega), if_neg (show ¬ y = 5 by omega), mu_j (by omega), mu_j (by omega), mu_j (by omega), mu_j (by omega)]
        · rw [if_neg hx, mu_c hx, mu_c hx, mu_c hx, mu_c hx]
      · rw [if_neg d]
        simp only [mu_s, mu_j, ne_eq, not_false_eq_true, Nat.reduceEqDiff]
        rw [if_pos (show inR (μ c 4 + 1) from by omega), M0_wears_eq N h0 h1, Option.bind_some, if_pos (show inR (wearsZ (μ c 0) (μ c 1)) ∧ inR (μ c 2) from by omega)]
        have eg : (if μ c 2 < wearsZ (μ c 0) (μ c 1) then μ c 2 else wearsZ (μ c 0) (μ c 1)) = goneP (μ c) := by
          unfold goneP
          rw [if_pos (show needsZ (μ c 0) (μ c 1) ≤ μ c 2 by omega)]
          by_cases g : μ c 2 < wearsZ (μ c 0) (μ c 1)
          · rw [if_pos g]; omega
          · rw [if_neg g]; omega
        rw [eg, M0_nextIn_eq N h0, Option.bind_some, show dgone (μ c) = goneP (μ c) from if_pos b]
        congr 2
        funext x y
        unfold putC
        by_cases hx : x = c
        · subst hx
          rw [if_pos rfl]
          unfold dayC thrP shoP dayP
          rw [if_pos (show (μ x 3 = 1 ∧ needsZ (μ x 0) (μ x 1) ≤ μ x 2) by omega), if_neg (show ¬ (μ x 3 = 1 ∧ ¬ needsZ (μ x 0) (μ x 1) ≤ μ x 2) by omega), if_neg a, if_pos b]
          unfold meetP
          rw [if_pos (show needsZ (μ x 0) (μ x 1) ≤ μ x 2 by omega), if_pos (show needsZ (μ x 0) (μ x 1) ≤ μ x 2 by omega)]
          have hy : y = 0 ∨ y = 1 ∨ y = 2 ∨ y = 3 ∨ y = 4 ∨ y = 5 ∨ y = 6 ∨ y = 7 ∨ 8 ≤ y := by omega
          rcases hy with rfl | rfl | rfl | rfl | rfl | rfl | rfl | rfl | hy
          · simp [mu]
          · simp [mu]
          · simp [mu]
          · simp [mu]
          · simp only [mu_s, mu_j, ne_eq, not_false_eq_true, Nat.reduceEqDiff]
            show (if 999 < μ x 4 + 1 then 999 else μ x 4 + 1) = min 999 (μ x 4 + 1)
            split <;> omega
          · simp [mu]
          · simp [mu]
          · simp [mu]
          · rw [if_neg (show ¬ y = 6 by omega), if_neg (show ¬ y = 7 by omega), if_neg (show ¬ y = 2 by omega), if_neg (show ¬ y = 3 by omega), if_neg (show ¬ y = 4 by omega), if_neg (show ¬ y = 5 by omega), mu_j (by omega), mu_j (by omega), mu_j (by omega), mu_j (by omega), mu_j (by omega)]
        · rw [if_neg hx, mu_c hx, mu_c hx, mu_c hx, mu_c hx, mu_c hx]
    · rw [if_neg (show ¬ μ c 3 - 1 ≤ 0 by omega), show dgone (μ c) = 0 from if_neg b]
      congr 2
      funext x y
      unfold putC
      by_cases hx : x = c
      · subst hx
        rw [if_pos rfl]
        unfold dayC thrP shoP dayP fu mu
        rw [if_neg (show ¬ (μ x 3 = 1 ∧ needsZ (μ x 0) (μ x 1) ≤ μ x 2) by omega), if_neg (show ¬ (μ x 3 = 1 ∧ ¬ needsZ (μ x 0) (μ x 1) ≤ μ x 2) by omega), if_neg a, if_neg b]
        repeat' split
        all_goals first | rfl | omega | simp_all
      · rw [if_neg hx, mu_c hx]
end
section
/-! days of an office -/
def okO (μ : mm) (o : Nat) : Prop := (0 ≤ μ o 2 ∧ μ o 2 ≤ 8) ∧ (0 ≤ μ o 4 ∧ μ o 4 ≤ 9999) ∧ ∀ p : Nat, (p : Int) < μ o 2 → okP (μ (o + 2 + p))
def wornO (o : Nat) (μ : mm) : Nat → Int
  | 0 => μ o 4
  | n + 1 => min 9999 (wornO o μ n + dgone (μ (o + 2 + n)))
def dyN (o n : Nat) (μ : mm) : mm := fun x y => if x = o then (if y = 5 then μ o 5 + 1 else if y = 4 then wornO o μ n else μ o y) else if o + 2 ≤ x ∧ x < o + 2 + n then dayC (μ x) y else μ x y
theorem wornO_in {μ : mm} {o : Nat} (h : okO μ o) : ∀ n : Nat, (n : Int) ≤ μ o 2 → 0 ≤ wornO o μ n ∧ wornO o μ n ≤ 9999 := by
  intro n
  induction n with
  | zero => intro _; exact h.2.1
  | succ n ih =>
    intro hn
    have a := ih (by omega)
    have b := dgone_in (h.2.2 n (by omega))
    show 0 ≤ min 9999 (wornO o μ n + dgone (μ (o + 2 + n))) ∧ min 9999 (wornO o μ n + dgone (μ (o + 2 + n))) ≤ 9999
    omega
theorem dyN_0 (o : Nat) (μ : mm) : mu μ o 5 (μ o 5 + 1) = dyN o 0 μ := by
  funext x y
  unfold dyN
  by_cases hx : x = o
  · subst hx
    rw [if_pos rfl]
    by_cases c : y = 5
    · subst c
      rw [if_pos rfl, mu_s]
    · rw [if_neg c, mu_j c]
      by_cases d : y = 4
      · subst d
        rw [if_pos rfl]
        rfl
      · rw [if_neg d]
  · rw [if_neg hx, if_neg (by omega), mu_c hx]
theorem dyN_c {o n x : Nat} {μ : mm} (h : x ≠ o) (hx : x < o + 2 ∨ o + 2 + n ≤ x) : dyN o n μ x = μ x := by
  funext y
  unfold dyN
  rw [if_neg h, if_neg (by omega)]
theorem dyN_p {o n p : Nat} {μ : mm} (h : p < n) : dyN o n μ (o + 2 + p) = dayC (μ (o + 2 + p)) := by
  funext y
  unfold dyN
  rw [if_neg (by omega), if_pos (by omega)]
theorem dyN_sc {o n y : Nat} {μ : mm} (h : y ≠ 5) (h4 : y ≠ 4) : dyN o n μ o y = μ o y := by
  unfold dyN
  rw [if_pos rfl, if_neg h, if_neg h4]
theorem dyN_5 {o n : Nat} {μ : mm} : dyN o n μ o 5 = μ o 5 + 1 := by
  unfold dyN
  rw [if_pos rfl, if_pos rfl]
theorem dyN_4 {o n : Nat} {μ : mm} : dyN o n μ o 4 = wornO o μ n := by
  unfold dyN
  rw [if_pos rfl, if_neg (by decide), if_pos rfl]
theorem dyN_step {o i : Nat} {μ : mm} : mu (putC (dyN o i μ) (o + 2 + i) (dayC (μ (o + 2 + i)))) o 4 (min 9999 (wornO o μ i + dgone (μ (o + 2 + i)))) = dyN o (i + 1) μ := by
  funext x y
  by_cases hx : x = o
  · subst hx
    by_cases h4 : y = 4
    · subst h4
      rw [mu_s, dyN_4]
      rfl
    · rw [mu_j h4, putC_row (by omega)]
      unfold dyN
      rw [if_pos rfl, if_pos rfl, if_neg h4, if_neg h4]
  · rw [mu_c hx]
    by_cases hi : x = o + 2 + i
    · subst hi
      rw [putC_s, dyN_p (by omega)]
    · rw [putC_row hi]
      unfold dyN
      rw [if_neg hx, if_neg hx]
      by_cases d : o + 2 ≤ x ∧ x < o + 2 + i
      · rw [if_pos d, if_pos (by omega)]
      · rw [if_neg d, if_neg (by omega)]
theorem daysGoBy_in (N : Nat) {o : Nat} (ho : isO o) (rec2 : Nat → Int → Int → mm → Option mm) (x1 x2 : Int) {μ : mm} (h : okO μ o) : ∀ (k i : Nat), (i : Int) ≤ μ o 2 → μ o 2 < (i : Int) + k → L1_daysGoBy_19 N rec2 k o x1 x2 (i : Int) (dyN o i μ) = rec2 o x1 (x2 + 1) (dyN o (μ o 2).toNat μ) := by
  have hm := h.1
  intro k
  induction k with
  | zero => intro i h1 h2; omega
  | succ k ih =>
    intro i h1 h2
    rw [L1_daysGoBy_19, dyN_sc (show 2 ≠ 5 by decide) (by decide), if_pos (show inR (i : Int) ∧ inR (μ o 2) from by omega)]
    by_cases c : μ o 2 ≤ (i : Int)
    · rw [if_pos c, show i = (μ o 2).toNat by omega]
    · have hi : i < 8 := by omega
      have hq := h.2.2 i (by omega)
      have hw := wornO_in h i h1
      have hg := dgone_in hq
      have e : dyN o i μ (o + 2 + i) = μ (o + 2 + i) := dyN_c (by omega) (by omega)
      rw [if_neg c, M1_at_eq N o i hi, Option.bind_some, if_pos (kdO ho hi), M2_oneDay_eq N _ (by rw [e]; exact hq), Option.bind_some, e]
      dsimp only
      have e4 : putC (dyN o i μ) (o + 2 + i) (dayC (μ (o + 2 + i))) o 4 = wornO o μ i := by
        rw [putC_row (by omega), dyN_4]
      rw [M1_wear_eq N o _ _ (by rw [e4]; exact hw) (by omega), Option.bind_some, e4, dyN_step]
      exact ih (i + 1) (by omega) (by omega)
def dyO (o : Nat) (μ : mm) : mm := dyN o (μ o 2).toNat μ
def dysO (o : Nat) : Nat → mm → mm
  | 0, μ => μ
  | n + 1, μ => dyO o (dysO o n μ)
theorem okP_congr {q q' : Nat → Int} (h : okP q) (e : ∀ k, k < 6 → q' k = q k) : okP q' := by
  unfold okP at h ⊢
  rw [e 0 (by decide), e 1 (by decide), e 2 (by decide), e 3 (by decide), e 4 (by decide), e 5 (by decide)]
  exact h
theorem dyO_ok {o : Nat} {μ : mm} (h : okO μ o) : okO (dyO o μ) o := by
  have hm := h.1
  have hw := wornO_in h (μ o 2).toNat (by omega)
  unfold dyO
  refine ⟨by rw [dyN_sc (by decide) (by decide)]; exact hm, by rw [dyN_4]; exact hw, fun p hp => ?_⟩
  rw [dyN_sc (by decide) (by decide)] at hp
  rw [dyN_p (by omega)]
  exact okP_congr (dayP_ok (h.2.2 p hp)) (fun k hk => dayC_p hk)
theorem dysO_ok {o : Nat} {μ : mm} (h : okO μ o) : ∀ n, okO (dysO o n μ) o := by
  intro n
  induction n with
  | zero => exact h
  | succ n ih => exact dyO_ok ih
theorem daysGoBy_loop (N : Nat) {o : Nat} (ho : isO o) {μ : mm} (hN : 9 ≤ N) (h : okO μ o) (n : Nat) (hn : n ≤ 1000) : ∀ (k i : Nat), i ≤ n → n < i + k → L1_daysGoBy_2 N k o (n : Int) (i : Int) (dysO o i μ) = some (dysO o n μ) := by
  intro k
  induction k with
  | zero => intro i h1 h2; omega
  | succ k ih =>
    intro i h1 h2
    have ok := dysO_ok h i
    have hm := ok.1
    rw [L1_daysGoBy_2, if_pos (show inR (i : Int) ∧ inR (n : Int) from by omega)]
    by_cases c : (n : Int) ≤ (i : Int)
    · rw [if_pos c, show i = n by omega]
    · rw [if_neg c]
      simp only [bnd]
      rw [dyN_0]
      have := daysGoBy_in N ho (L1_daysGoBy_2 N k) (n : Int) (i : Int) ok N 0 (by omega) (by omega)
      rw [show ((0 : Nat) : Int) = 0 from rfl] at this
      rw [this]
      exact ih (i + 1) (by omega) (by omega)
theorem M1_daysGoBy_eq (N : Nat) {o : Nat} (ho : isO o) {μ : mm} (hN : 9 ≤ N) (h : okO μ o) (n : Nat) (hn : n ≤ 1000) (hnN : n < N) : M1_daysGoBy N o (n : Int) μ = some (dysO o n μ) :=
  daysGoBy_loop N ho hN h n hn N 0 (by omega) (by omega)
theorem dysO_c {o x : Nat} {μ : mm} (h : okO μ o) (hx : x ≠ o) (hb : x < o + 2 ∨ o + 10 ≤ x) : ∀ n, dysO o n μ x = μ x := by
  intro n
  induction n with
  | zero => rfl
  | succ n ih =>
    have hm := (dysO_ok h n).1
    show dyN o (dysO o n μ o 2).toNat (dysO o n μ) x = μ x
    rw [dyN_c hx (by omega), ih]
/-- office o of one memory against row r of another -/
def relX (o r : Nat) (μ ν : mm) : Prop := μ o 2 = ν r 0 ∧ μ o 3 = ν r 2 ∧ μ o 4 = ν r 3 ∧ μ o 5 = ν r 1 ∧ ∀ p : Nat, (p : Int) < ν r 0 → at6 ν r p (μ (o + 2 + p))
theorem okO_of {o r : Nat} {μ ν : mm} (h : relX o r μ ν) (ok : okR ν r) : okO μ o := by
  obtain ⟨h1, h2, h3, h4, h5⟩ := h
  obtain ⟨o1, o2, o3, o4, o5⟩ := ok
  refine ⟨by rw [h1]; exact o1, by rw [h3]; exact o4, fun p hp => ?_⟩
  rw [h1] at hp
  exact okP_congr (o5 p hp) (fun k hk => (h5 p hp k hk).symm)
theorem dgone_congr {q q' : Nat → Int} (h : ∀ k, k < 6 → q k = q' k) : dgone q = dgone q' := by
  unfold dgone goneP
  rw [h 0 (by decide), h 1 (by decide), h 2 (by decide), h 3 (by decide)]
theorem wornO_eq {o r : Nat} {μ ν : mm} (h : relX o r μ ν) : ∀ i : Nat, (i : Int) ≤ ν r 0 → wornO o μ i = wornU ν r i := by
  intro i
  induction i with
  | zero => intro _; exact h.2.2.1
  | succ i ih =>
    intro hi
    show min 9999 (wornO o μ i + dgone (μ (o + 2 + i))) = min 9999 (wornU ν r i + dgone (pq ν r i))
    rw [ih (by omega), dgone_congr (q := pq ν r i) (q' := μ (o + 2 + i)) (fun k hk => h.2.2.2.2 i (by omega) k hk)]
theorem relX_day {o r : Nat} {μ ν : mm} (h : relX o r μ ν) (ok : okR ν r) : relX o r (dyO o μ) (dayR r ν) := by
  have hw := wornO_eq h (ν r 0).toNat (by have := ok.1; omega)
  have hm := ok.1
  obtain ⟨h1, h2, h3, h4, h5⟩ := id h
  unfold dyO dayR
  refine ⟨by rw [dyN_sc (by decide) (by decide), dayN_many]; exact h1, by rw [dyN_sc (by decide) (by decide), dayN_store]; exact h2, by rw [dyN_4, dayN_worn, h1]; exact hw, by rw [dyN_5, dayN_day, h4], fun p hp => ?_⟩
  rw [dayN_many] at hp
  have a := dayR_at (r := r) (μ := ν) hp (h5 p hp)
  unfold dayR at a
  intro k hk
  rw [a k hk, dyN_p (by omega), dayC_p hk]
theorem relX_days {o r : Nat} {μ ν : mm} (h : relX o r μ ν) (ok : okR ν r) : ∀ n : Nat, ν r 1 + (n : Int) ≤ 1000000 → relX o r (dysO o n μ) (days r n ν) := by
  intro n
  induction n with
  | zero => intro _; exact h
  | succ n ih =>
    intro hn
    exact relX_day (ih (by omega)) (days_ok ok n (by omega))
theorem relX_congr {o r r' : Nat} {μ ν μ' ν' : mm} (h : relX o r μ ν) (hm : ν r 0 ≤ 8) (ho : μ' o = μ o) (hp : ∀ p, p < 8 → μ' (o + 2 + p) = μ (o + 2 + p)) (hr : ∀ j, j < 52 → ν' r' j = ν r j) : relX o r' μ' ν' := by
  obtain ⟨h1, h2, h3, h4, h5⟩ := h
  refine ⟨by rw [ho, hr 0 (by decide)]; exact h1, by rw [ho, hr 2 (by decide)]; exact h2, by rw [ho, hr 3 (by decide)]; exact h3, by rw [ho, hr 1 (by decide)]; exact h4, fun p hpm => ?_⟩
  rw [hr 0 (by decide)] at hpm
  intro k hk
  rw [hr _ (by omega), hp p (by omega)]
  exact h5 p hpm k hk
theorem relX_sum {o r : Nat} {μ ν : mm} (h : relX o r μ ν) (w : Nat) (hw : w < 6) : sumN (fun p => μ (o + 2 + p) w) (μ o 2).toNat = sumN (fun p => ν r (4 + 6 * p + w)) (ν r 0).toNat := by
  rw [h.1]
  exact sumN_congr _ (fun i hi => (h.2.2.2.2 i (by omega) w hw).symm)
theorem op_days (N : Nat) (hN : 100 ≤ N) {μ : mm} (R : Rel μ) {n : Int} (hn : inR n) : Op (M4_days N n) (M5_days N n) μ := by
  obtain ⟨⟨a1, a2, a3⟩, -⟩ := id R
  have hm := a2.1
  have hd := a2.2.1
  have ho := outZ_in n 1 60
  have X : relX 10 1 μ μ := a1
  have e4 : M4_days N n μ = if outZ n 1 60 = 0 ∧ μ 1 1 + n ≤ 999 then J4_days_30 N n 0 μ else M4_refused N (if outZ n 1 60 = 0 then -6 else outZ n 1 60) μ := by
    simp only [M4_days]
    rw [M4_outside_eq N hn (by decide) (by decide), Option.bind_some, if_pos (show inR (outZ n 1 60) from by omega), a1.2.2.2.1]
    by_cases o : outZ n 1 60 = 0
    · have oo := outZ_0 o
      rw [if_pos o, if_pos (show inR (μ 1 1 + n) from by omega), o]
      by_cases c : μ 1 1 + n ≤ 999
      · rw [if_pos c, if_pos ⟨rfl, c⟩]
      · rw [if_neg c, if_neg (fun z => c z.2), if_pos rfl]
        simp only [J4_days_30]
        rw [if_pos (by decide), if_neg (by decide), rf4 N (by decide)]
    · rw [if_neg o, if_neg (fun z => o z.1), if_neg o]
      simp only [J4_days_30]
      rw [if_pos (show inR (outZ n 1 60) from by omega), if_neg o, rf4 N ho]
  have m5 : ∀ ν : mm, ν 1 1 = μ 1 1 → ¬ (outZ n 1 60 = 0 ∧ μ 1 1 + n ≤ 999) → M5_days N n ν = M5_no N (if outZ n 1 60 = 0 then -6 else outZ n 1 60) ν := by
    intro ν hν hc
    simp only [M5_days, J5_days_32]
    rw [if_pos hn, if_pos hn, rf5 N (by decide), rf5 N (by decide), hν]
    unfold outZ at hc ⊢
    by_cases h1 : n < 1
    · rw [if_neg (show ¬ 1 ≤ n by omega), if_pos h1, if_neg (by decide)]
    · rw [if_pos (show 1 ≤ n by omega), if_neg h1]
      rw [if_neg h1] at hc
      by_cases h2 : 60 < n
      · rw [if_pos h2, if_pos h2, if_neg (by decide)]
      · rw [if_neg h2] at hc
        have hc' : ¬ μ 1 1 + n ≤ 999 := fun z => hc ⟨rfl, z⟩
        rw [if_neg h2, if_neg h2, if_pos (show inR (μ 1 1 + n) from by omega), if_neg hc', if_pos rfl]
  by_cases c : outZ n 1 60 = 0 ∧ μ 1 1 + n ≤ 999
  · obtain ⟨o, c2⟩ := id c
    have oo := outZ_0 o
    obtain ⟨j, rfl⟩ := Int.eq_ofNat_of_zero_le (show 0 ≤ n by omega)
    have okO1 := okO_of X a2
    have X1 : relX 10 1 (dysO 10 j μ) (days 1 j μ) := relX_days X a2 j (by omega)
    have ok1 := days_ok a2 j (by omega)
    have hr1 : dysO 10 j μ 1 = μ 1 := dysO_c okO1 (by decide) (by omega) j
    have hdr : ∀ i, i < 52 → days 1 j (dysO 10 j μ) 1 i = days 1 j μ 1 i := by
      have hrow : ∀ t, days 1 t (dysO 10 j μ) 1 = days 1 t μ 1 := by
        intro t
        induction t with
        | zero => exact hr1
        | succ t ih =>
          funext b
          show dayN 1 (days 1 t (dysO 10 j μ) 1 0).toNat (days 1 t (dysO 10 j μ)) 1 b = dayN 1 (days 1 t μ 1 0).toNat (days 1 t μ) 1 b
          have wU : ∀ i, wornU (days 1 t (dysO 10 j μ)) 1 i = wornU (days 1 t μ) 1 i := by
            intro i
            induction i with
            | zero => show days 1 t (dysO 10 j μ) 1 3 = days 1 t μ 1 3; rw [ih]
            | succ i ihi =>
              show min 9999 (wornU (days 1 t (dysO 10 j μ)) 1 i + dgone (pq (days 1 t (dysO 10 j μ)) 1 i)) = min 9999 (wornU (days 1 t μ) 1 i + dgone (pq (days 1 t μ) 1 i))
              rw [ihi]
              unfold pq
              rw [ih]
          unfold dayN pq
          rw [wU, ih]
      intro i _
      rw [hrow j]
    have Xf : relX 10 1 (days 1 j (dysO 10 j μ)) (days 1 j (dysO 10 j μ)) := relX_congr X1 ok1.1.2 (funext fun b => days_c (by decide) j) (fun p hp => funext fun b => days_c (by omega) j) hdr
    refine ⟨sumN (fun p => days 1 j μ 1 (4 + 6 * p + 4)) (days 1 j μ 1 0).toNat - sumN (fun p => μ 1 (4 + 6 * p + 4)) (μ 1 0).toNat, dysO 10 j μ, days 1 j (dysO 10 j μ), ?_, ?_, ?_⟩
    · rw [e4, if_pos c]
      simp only [J4_days_30]
      rw [if_pos (by decide), if_pos trivial, M1_allThrough_eq N (Or.inl rfl) (by omega) (by rw [a1.1]; exact hm), Option.bind_some, M1_daysGoBy_eq N (Or.inl rfl) (by omega) okO1 j (by omega) (by omega), Option.bind_some, M1_allThrough_eq N (Or.inl rfl) (by omega) (by rw [X1.1]; exact ok1.1), Option.bind_some, relX_sum X1 4 (by decide), relX_sum X 4 (by decide)]
    · have okm : okR (dysO 10 j μ) 1 := okR_congr a2 hr1
      have e0 := M5_allOf_eq N 1 4 (by decide) (by omega) (μ := dysO 10 j μ) okm.1
      have okd := days_ok okm j (by rw [hr1]; omega)
      have e1 := M5_allOf_eq N 1 4 (by decide) (by omega) (μ := days 1 j (dysO 10 j μ)) okd.1
      rw [show ((4 : Nat) : Int) = 4 from rfl] at e0 e1
      simp only [M5_days]
      rw [if_pos hn, if_pos (show 1 ≤ (j : Int) by omega), if_pos hn, if_neg (show ¬ 60 < (j : Int) by omega), hr1, if_pos (show inR (μ 1 1 + (j : Int)) from by omega), if_pos c2, e0, Option.bind_some, M5_daysOn_eq N 1 (by omega) okm j (by rw [hr1]; omega) (by omega), Option.bind_some, e1, Option.bind_some, hr1]
      have hz : sumN (fun p => days 1 j (dysO 10 j μ) 1 (4 + 6 * p + 4)) (days 1 j (dysO 10 j μ) 1 0).toNat = sumN (fun p => days 1 j μ 1 (4 + 6 * p + 4)) (days 1 j μ 1 0).toNat := by
        rw [hdr 0 (by decide)]
        refine sumN_congr _ (fun i hi => hdr _ ?_)
        have := ok1.1
        omega
      rw [hz]
    · refine Rel_off R ⟨Xf, ?_, ?_⟩ ?_
      · exact okR_row ok1 hdr
      · rw [hdr 1 (by decide), days_day]
        exact c2
      · intro a h1 h10 hx
        rw [show days 1 j (dysO 10 j μ) a = dysO 10 j μ a from funext fun b => days_c h1 j, dysO_c okO1 h10 (by omega)]
  · refine Op_ref N R (c := if outZ n 1 60 = 0 then -6 else outZ n 1 60) (by split <;> omega) ?_ (fun ν hν => ?_)
    · rw [e4, if_neg c]
    · exact m5 ν (by rw [hν, r4_c (by decide)]) c
end
section
/-! in mind: allThen, personThen -/
theorem M5_takes_eq (N : Nat) {μ : mm} (hN : 100 ≤ N) (ok : okR μ 1) (h1 : μ 1 1 ≤ 999) (j : Nat) (hj : j ≤ 99) : M5_takes N (j : Int) μ = some (days 2 j (cp 1 2 μ)) := by
  unfold M5_takes
  have ok2 : okR (cp 1 2 μ) 2 := cp_ok ok
  have e : cp 1 2 μ 2 1 = μ 1 1 := cp_to (by decide)
  rw [M5_copies_eq N 1 2 (by omega) (by decide), Option.bind_some, M5_daysOn_eq N 2 (by omega) ok2 j (by omega) (by omega), Option.bind_some]
def mindT (μ : mm) : mm := tkN 21 10 (μ 10 2).toNat μ
theorem mindT_X {μ : mm} (R : relO 10 1 μ) (ok : okR μ 1) : relX 21 1 (mindT μ) μ := by
  obtain ⟨r1, r2, r3, r4, r5⟩ := R
  have hm := ok.1
  unfold mindT
  refine ⟨by rw [tkN_sc (by decide)]; exact r1, by rw [tkN_sc (by decide)]; exact r2, by rw [tkN_sc (by decide)]; exact r3, by rw [tkN_sc (by decide)]; exact r4, fun p hp k hk => ?_⟩
  rw [tkN_at (by omega) hk]
  exact r5 p hp k hk
theorem mindT_c {μ : mm} (R : relO 10 1 μ) (ok : okR μ 1) {x : Nat} (h : x ≠ 21) (hx : x < 23 ∨ 31 ≤ x) : mindT μ x = μ x := by
  have hm := ok.1
  have e := R.1
  exact tkN_c h (by omega)
theorem mind_eq (N : Nat) {μ : mm} (hN : 9 ≤ N) (R : relO 10 1 μ) (ok : okR μ 1) : M1_takeFrom N 21 10 μ = some (mindT μ) :=
  M1_takeFrom_eq N (Or.inr (Or.inl rfl)) (Or.inl rfl) (by decide) hN (by rw [R.1]; exact ok.1)
/-- mind and m behind the same days -/
theorem mind_days {μ μ' : mm} (R : relO 10 1 μ) (ok : okR μ 1) (h1 : μ 1 1 ≤ 999) (hr : μ' 1 = μ 1) (j : Nat) (hj : j ≤ 99) : relX 21 2 (dysO 21 j (mindT μ)) (days 2 j (cp 1 2 μ')) ∧ okR (days 2 j (cp 1 2 μ')) 2 ∧ okO (mindT μ) 21 := by
  have ok' : okR μ' 1 := okR_congr ok hr
  have ok2 : okR (cp 1 2 μ') 2 := cp_ok ok'
  have e : cp 1 2 μ' 2 1 = μ 1 1 := (cp_to (by decide)).trans (by rw [hr])
  have X : relX 21 2 (mindT μ) (cp 1 2 μ') := relX_congr (mindT_X R ok) ok.1.2 rfl (fun p hp => rfl) (fun i hi => (cp_to hi).trans (by rw [hr]))
  exact ⟨relX_days X ok2 j (by omega), days_ok ok2 j (by omega), okO_of X ok2⟩
theorem scr_ne {a : Nat} (h : scr a = false) : a ≠ 2 ∧ a ≠ 4 ∧ a ≠ 8 ∧ a ≠ 21 ∧ a ≠ 22 ∧ (a < 23 ∨ 31 ≤ a) ∧ a ≠ 43 ∧ a ≠ 48 ∧ a ≠ 49 := by
  unfold scr at h
  simp only [Bool.or_eq_false_iff, Bool.and_eq_false_iff, beq_eq_false_iff_ne, ne_eq, decide_eq_false_iff_not] at h
  omega
theorem op_allThen (N : Nat) (hN : 200 ≤ N) {μ : mm} (R : Rel μ) {n w : Int} (hn : inR n) (hw : inR w) : Op (M4_allThen N n w) (M5_allThen N n w) μ := by
  obtain ⟨⟨a1, a2, a3⟩, -⟩ := id R
  have ho := outZ_in n 0 99
  have ht := othZ_in w 2
  by_cases o : outZ n 0 99 = 0
  · have oo := outZ_0 o
    by_cases t : othZ w 2 = 0
    · have tt := othZ_0 t
      obtain ⟨j, rfl⟩ := Int.eq_ofNat_of_zero_le oo.1
      have hc1 : dysO 21 j (mindT μ) 1 = μ 1 := by
        have ok21 := (mind_days a1 a2 a3 rfl j (by omega)).2.2
        rw [dysO_c ok21 (by decide) (by omega), mindT_c a1 a2 (by decide) (by omega)]
      obtain ⟨X, okm, ok21⟩ := mind_days a1 a2 a3 hc1 j (by omega)
      have ok1 : okR (dysO 21 j (mindT μ)) 1 := okR_congr a2 hc1
      have hx := dysO_ok ok21 j
      have Rf : Rel (days 2 j (cp 1 2 (dysO 21 j (mindT μ)))) := by
        refine Rel_scr R (fun a ha h0 => ?_) (fun i _ _ => ?_)
        · have := scr_ne ha
          rw [show days 2 j (cp 1 2 (dysO 21 j (mindT μ))) a = cp 1 2 (dysO 21 j (mindT μ)) a from funext fun b => days_c (by omega) j, cp_row (by omega), dysO_c ok21 (by omega) (by omega), mindT_c a1 a2 (by omega) (by omega)]
        · rw [days_c (by decide), cp_c (by decide), dysO_c ok21 (by decide) (by omega), mindT_c a1 a2 (by decide) (by omega)]
      have e4 := M5_allOf_eq N 2 4 (by decide) (by omega) (μ := days 2 j (cp 1 2 (dysO 21 j (mindT μ)))) okm.1
      have e5 := M5_allOf_eq N 2 5 (by decide) (by omega) (μ := days 2 j (cp 1 2 (dysO 21 j (mindT μ)))) okm.1
      rw [show ((4 : Nat) : Int) = 4 from rfl] at e4
      rw [show ((5 : Nat) : Int) = 5 from rfl] at e5
      have f4 : M4_allThen N (j : Int) w μ = if w = 0 then some (sumN (fun p => dysO 21 j (mindT μ) (21 + 2 + p) 4) (dysO 21 j (mindT μ) 21 2).toNat, dysO 21 j (mindT μ)) else if w = 1 then some (sumN (fun p => dysO 21 j (mindT μ) (21 + 2 + p) 5) (dysO 21 j (mindT μ) 21 2).toNat, dysO 21 j (mindT μ)) else some (dysO 21 j (mindT μ) 21 4, dysO 21 j (mindT μ)) := by
        simp only [M4_allThen]
        rw [M4_outside_eq N hn (by decide) (by decide), Option.bind_some, M4_other_eq N hw (by decide), Option.bind_some, M4_firstOf_eq N ho ht, Option.bind_some, fst0 o t, if_pos (by decide), if_pos rfl, mind_eq N (by omega) a1 a2, Option.bind_some, M1_daysGoBy_eq N (Or.inr (Or.inl rfl)) (by omega) ok21 j (by omega) (by omega), Option.bind_some, if_pos hw, if_pos hw, M1_allThrough_eq N (Or.inr (Or.inl rfl)) (by omega) hx.1, M1_allShort_eq N (Or.inr (Or.inl rfl)) (by omega) hx.1]
        rfl
      have f5 : M5_allThen N (j : Int) w (dysO 21 j (mindT μ)) = if w = 0 then some (sumN (fun p => days 2 j (cp 1 2 (dysO 21 j (mindT μ))) 2 (4 + 6 * p + 4)) (days 2 j (cp 1 2 (dysO 21 j (mindT μ))) 2 0).toNat, days 2 j (cp 1 2 (dysO 21 j (mindT μ)))) else if w = 1 then some (sumN (fun p => days 2 j (cp 1 2 (dysO 21 j (mindT μ))) 2 (4 + 6 * p + 5)) (days 2 j (cp 1 2 (dysO 21 j (mindT μ))) 2 0).toNat, days 2 j (cp 1 2 (dysO 21 j (mindT μ)))) else some (days 2 j (cp 1 2 (dysO 21 j (mindT μ))) 2 3, days 2 j (cp 1 2 (dysO 21 j (mindT μ)))) := by
        simp only [M5_allThen, J5_allThen_24]
        rw [M5_wrongBy_eq N hn (by decide) (by decide), Option.bind_some, o, if_pos (by decide), if_pos rfl, M5_isIn_eq N hw (by decide) (by decide), Option.bind_some, if_pos tt, if_pos (by decide), if_neg (by decide), if_pos (by decide), if_pos rfl, M5_takes_eq N (by omega) ok1 (by rw [hc1]; exact a3) j (by omega), Option.bind_some, if_pos hw, if_pos hw, e4, e5]
        rfl
      by_cases w0 : w = 0
      · exact ⟨_, _, _, by rw [f4, if_pos w0], by rw [f5, if_pos w0, ← relX_sum X 4 (by decide)], Rf⟩
      · by_cases w1 : w = 1
        · exact ⟨_, _, _, by rw [f4, if_neg w0, if_pos w1], by rw [f5, if_neg w0, if_pos w1, ← relX_sum X 5 (by decide)], Rf⟩
        · exact ⟨_, _, _, by rw [f4, if_neg w0, if_neg w1], by rw [f5, if_neg w0, if_neg w1, ← X.2.2.1], Rf⟩
    · obtain ⟨t1, t2⟩ := oth_no t
      refine Op_ref N R (c := -2) (by decide) ?_ (fun ν _ => ?_)
      · simp only [M4_allThen]
        rw [M4_outside_eq N hn (by decide) (by decide), Option.bind_some, M4_other_eq N hw (by decide), Option.bind_some, M4_firstOf_eq N ho ht, Option.bind_some, fst2 o t, t1, if_pos (by decide), if_neg (by decide), rf4 N (by decide)]
      · simp only [M5_allThen, J5_allThen_24]
        rw [M5_wrongBy_eq N hn (by decide) (by decide), Option.bind_some, o, if_pos (by decide), if_pos rfl, M5_isIn_eq N hw (by decide) (by decide), Option.bind_some, if_neg t2, if_pos (by decide), if_pos rfl, if_pos (by decide), if_neg (by decide), rf5 N (by decide)]
  · refine Op_ref N R (c := outZ n 0 99) (by omega) ?_ (fun ν _ => ?_)
    · simp only [M4_allThen]
      rw [M4_outside_eq N hn (by decide) (by decide), Option.bind_some, M4_other_eq N hw (by decide), Option.bind_some, M4_firstOf_eq N ho ht, Option.bind_some, fst1 o, if_pos (show inR (outZ n 0 99) from by omega), if_neg o, rf4 N ho]
    · simp only [M5_allThen, J5_allThen_24]
      rw [M5_wrongBy_eq N hn (by decide) (by decide), Option.bind_some, if_pos (show inR (outZ n 0 99) from by omega), if_neg o, if_pos (show inR (outZ n 0 99) from by omega), if_neg o, rf5 N ho]
/-! one alone in thought -/
def dysC : Nat → (Nat → Int) → (Nat → Int)
  | 0, q => q
  | n + 1, q => dayC (dysC n q)
theorem dayC_ok {q : Nat → Int} (h : okP q) : okP (dayC q) := okP_congr (dayP_ok h) (fun _ hk => dayC_p hk)
theorem dysC_ok {q : Nat → Int} (h : okP q) : ∀ n, okP (dysC n q) := by
  intro n
  induction n with
  | zero => exact h
  | succ n ih => exact dayC_ok ih
theorem dysC_p {q q' : Nat → Int} (h : ∀ k, k < 6 → q k = q' k) : ∀ n, ∀ k, k < 6 → dysC n q k = dayI n q' k := by
  intro n
  induction n with
  | zero => exact h
  | succ n ih =>
    intro k hk
    show dayC (dysC n q) k = dayP (dayI n q') k
    rw [dayC_p hk]
    exact dayP_congr ih k hk
/-- the trial as it starts: as he is, with that many grains -/
def trialQ (μ : mm) (c : Nat) (has : Int) : Nat → Int := fun k => if k = 2 then has else if k < 6 then μ c k else if k < 8 then 0 else μ 43 k
theorem trial_mu {μ : mm} {c : Nat} {has : Int} : mu (tkP 43 c μ) 43 2 has = putC μ 43 (trialQ μ c has) := by
  funext x y
  by_cases hx : x = 43
  · subst hx
    rw [putC_s]
    unfold trialQ
    by_cases h2 : y = 2
    · subst h2
      rw [mu_s, if_pos rfl]
    · rw [mu_j h2, if_neg h2]
      unfold tkP
      by_cases h8 : y < 8
      · rw [if_pos ⟨rfl, h8⟩]
        by_cases h6 : y < 6
        · rw [if_pos h6, if_pos h6]
        · rw [if_neg h6, if_neg h6, if_pos h8]
      · rw [if_neg (fun z => h8 z.2), if_neg (by omega), if_neg h8]
  · rw [mu_c hx, putC_row hx]
    unfold tkP
    rw [if_neg (fun z => hx z.1)]
theorem putC_putC {μ : mm} {c : Nat} {q q' : Nat → Int} : putC (putC μ c q) c q' = putC μ c q' := by
  funext x y
  unfold putC
  split <;> rfl
theorem thought_loop (N : Nat) {μ : mm} {q : Nat → Int} (h : okP q) (n : Nat) (hn : n ≤ 1000) : ∀ (k i : Nat), i ≤ n → n < i + k → L4_thought_26 N k (n : Int) (i : Int) (putC μ 43 (dysC i q)) = some (43, putC μ 43 (dysC n q)) := by
  intro k
  induction k with
  | zero => intro i h1 h2; omega
  | succ k ih =>
    intro i h1 h2
    rw [L4_thought_26, if_pos (show inR (i : Int) ∧ inR (n : Int) from by omega)]
    by_cases c : (n : Int) ≤ (i : Int)
    · rw [if_pos c, show i = n by omega]
    · rw [if_neg c, M2_oneDay_eq N 43 (by rw [putC_s]; exact dysC_ok h i), Option.bind_some, putC_s, putC_putC]
      exact ih (i + 1) (by omega) (by omega)
theorem trialQ_ok {μ : mm} {c : Nat} {has : Int} (h : okP (μ c)) (hh : 0 ≤ has ∧ has ≤ 99) : okP (trialQ μ c has) := ⟨h.1, h.2.1, hh, h.2.2.2.1, h.2.2.2.2.1, h.2.2.2.2.2⟩
theorem M4_thought_eq (N : Nat) {μ : mm} {p : Nat} (hp : p < 8) (h : okP (μ (10 + 2 + p))) {has : Int} (hh : 0 ≤ has ∧ has ≤ 99) (n : Nat) (hn : n ≤ 1000) (hN : n < N) : M4_thought N (p : Int) has (n : Int) μ = some (43, putC μ 43 (dysC n (trialQ μ (10 + 2 + p) has))) := by
  simp only [M4_thought, bnd]
  rw [M1_at_eq N 10 p hp, Option.bind_some, if_pos (kdo (Or.inl rfl) hp), M2_takeFrom_eq N (by omega), Option.bind_some, trial_mu]
  exact thought_loop N (trialQ_ok h hh) n hn N 0 (by omega) (by omega)
end
section
/-- mind's row behind days in m, and the trial's person: the same -/
theorem mdays_at {μ : mm} (ok : okR μ 1) (p j : Nat) (hp : (p : Int) < μ 1 0) {q : Nat → Int} (h6 : at6 μ 1 p q) : at6 (days 2 j (cp 1 2 μ)) 2 p (dayI j q) := by
  have hm := ok.1
  refine days_at (by rw [cp_to (by decide)]; exact hp) ?_ j
  exact cp_at (by omega) h6
theorem Rel_m {μ ν : mm} (R : Rel μ) (h : ∀ a, a ≠ 43 → a ≠ 2 → a ≠ 4 → ν a = μ a) : Rel ν := by
  refine Rel_scr R (fun a ha h0 => ?_) (fun i _ _ => by rw [h 0 (by decide) (by decide) (by decide)])
  have := scr_ne ha
  exact h a (by omega) (by omega) (by omega)
theorem trialQ_p {μ : mm} {c : Nat} : ∀ k, k < 6 → trialQ μ c (μ c 2) k = μ c k := by
  intro k hk
  unfold trialQ
  by_cases h : k = 2
  · rw [if_pos h, h]
  · rw [if_neg h, if_pos hk]
theorem fst3r {a b c : Int} (ha : a = 0) (hb : b = 0) (hc : ¬ c = 0) : fstZ a b c = c := fst3 ha hb
theorem ixk (p : Nat) (w : Nat) : ((4 + (6 * (p : Int))) + (2 + (w : Int))).toNat = 4 + 6 * p + (2 + w) := by omega
theorem op_personThen (N : Nat) (hN : 200 ≤ N) {μ : mm} (R : Rel μ) {p n w : Int} (hp : inR p) (hn : inR n) (hw : inR w) : Op (M4_personThen N p n w) (M5_personThen N p n w) μ := by
  obtain ⟨⟨a1, a2, a3⟩, -⟩ := id R
  have hm := a2.1
  have hu := unkZ_in μ p
  have ho := outZ_in n 0 99
  have ht := othZ_in w 4
  have hff := fstZ_in hu ho ht
  have g4 : ∀ c : Int, -6 ≤ c ∧ c ≤ -1 → fstZ (unkZ μ p) (outZ n 0 99) (othZ w 4) = c → M4_personThen N p n w μ = M4_refused N c μ := by
    intro c hc h
    simp only [M4_personThen]
    rw [M4_unknown_eq N hp a1 a2, Option.bind_some, M4_outside_eq N hn (by decide) (by decide), Option.bind_some, M4_other_eq N hw (by decide), Option.bind_some, M4_firstOf_eq N hu ho, Option.bind_some, h, if_pos (show inR c from by omega), if_neg (show ¬ c = 0 by omega), rf4 N (by omega)]
  have g39 : ∀ (ν : mm) (c : Int), -6 ≤ c ∧ c ≤ -1 → J5_personThen_39 N p n w c ν = M5_no N c ν := by
    intro ν c hc
    simp only [J5_personThen_39]
    rw [if_pos (show inR c from by omega), if_neg (show ¬ c = 0 by omega), rf5 N (by omega)]
  have g19 : ∀ (ν : mm) (c : Int), -6 ≤ c ∧ c ≤ -1 → J5_personThen_19 N p n w c ν = M5_no N c ν := by
    intro ν c hc
    simp only [J5_personThen_19]
    rw [if_pos (show inR c from by omega), if_neg (show ¬ c = 0 by omega), g39 ν c hc]
  by_cases k : unkZ μ p = 0
  · have kk := unkZ_0 k
    obtain ⟨i, rfl⟩ := Int.eq_ofNat_of_zero_le kk.1
    have hi : i < 8 := by omega
    have h6 := a1.2.2.2.2 i kk.2
    have hq := offP a1 a2 kk.2
    by_cases o : outZ n 0 99 = 0
    · have oo := outZ_0 o
      obtain ⟨j, rfl⟩ := Int.eq_ofNat_of_zero_le oo.1
      by_cases t : othZ w 4 = 0
      · have tt := othZ_0 t
        have eT := M4_thought_eq N hi hq (has := μ (10 + 2 + i) 2) hq.2.2.1 j (by omega) (by omega)
        have D : ∀ k, k < 6 → dysC j (trialQ μ (10 + 2 + i) (μ (10 + 2 + i) 2)) k = dayI j (μ (10 + 2 + i)) k := dysC_p trialQ_p j
        have hD := dayI_ok hq j
        generalize hT : dysC j (trialQ μ (10 + 2 + i) (μ (10 + 2 + i) 2)) = T at eT D
        have e1 : putC μ 43 T 1 = μ 1 := putC_row (by decide)
        have ok1 : okR (putC μ 43 T) 1 := okR_congr a2 e1
        have M6 : at6 (days 2 j (cp 1 2 (putC μ 43 T))) 2 i (dayI j (μ (10 + 2 + i))) := mdays_at ok1 i j (by rw [e1]; exact kk.2) (by intro k hk; rw [e1]; exact h6 k hk)
        have Rf : Rel (days 2 j (cp 1 2 (putC μ 43 T))) := by
          refine Rel_m R (fun a h43 h2 h4 => ?_)
          rw [show days 2 j (cp 1 2 (putC μ 43 T)) a = cp 1 2 (putC μ 43 T) a from funext fun b => days_c h2 j, cp_row h2, putC_row h43]
        have f4 : M4_personThen N (i : Int) (j : Int) w μ = some (if w = 0 then T 2 else if w = 1 then T 3 else if w = 2 then T 4 else if w = 3 then T 5 else if T 5 ≤ μ (10 + 2 + i) 5 then 0 else 1, putC μ 43 T) := by
          simp only [M4_personThen]
          rw [M4_unknown_eq N hp a1 a2, Option.bind_some, M4_outside_eq N hn (by decide) (by decide), Option.bind_some, M4_other_eq N hw (by decide), Option.bind_some, M4_firstOf_eq N hu ho, Option.bind_some, fst3 k o, t, if_pos (by decide), if_pos rfl, M1_at_eq N 10 i hi, Option.bind_some, if_pos (kdo (Or.inl rfl) hi), eT, Option.bind_some]
          dsimp only
          have es : ∀ y, putC μ 43 T 43 y = T y := fun y => congrFun putC_s y
          have er : putC μ 43 T (10 + 2 + i) 5 = μ (10 + 2 + i) 5 := congrFun (putC_row (by omega)) 5
          rw [if_pos (by decide), if_pos hw]
          simp only [es, er]
          rw [if_pos (show inR (T 5) ∧ inR (μ (10 + 2 + i) 5) from by have := D 5 (by decide); have := hD.2.2.2.2.2; have := hq.2.2.2.2.2; omega)]
          repeat' split
          all_goals rfl
        have e5 : days 2 j (cp 1 2 (putC μ 43 T)) 1 = μ 1 := by
          rw [show days 2 j (cp 1 2 (putC μ 43 T)) 1 = cp 1 2 (putC μ 43 T) 1 from funext fun b => days_c (by decide) j, cp_row (by decide), e1]
        have f5 : M5_personThen N (i : Int) (j : Int) w (putC μ 43 T) = some (if w = 0 then T 2 else if w = 1 then T 3 else if w = 2 then T 4 else if w = 3 then T 5 else if T 5 ≤ μ (10 + 2 + i) 5 then 0 else 1, days 2 j (cp 1 2 (putC μ 43 T))) := by
          simp only [M5_personThen, J5_personThen_19, J5_personThen_39]
          rw [M5_isOne_eq N hp ok1, Option.bind_some, e1, if_pos kk, if_pos (by decide), if_neg (by decide), M5_wrongBy_eq N hn (by decide) (by decide), Option.bind_some, o, if_pos (by decide), if_pos rfl, M5_isIn_eq N hw (by decide) (by decide), Option.bind_some, if_pos tt, if_pos (by decide), if_neg (by decide), if_pos (by decide), if_pos rfl, M5_takes_eq N (by omega) ok1 (by rw [e1]; exact a3) j (by omega), Option.bind_some, if_pos hw]
          by_cases w4 : 4 ≤ w
          · rw [if_pos w4, if_pos (ixg hi (by decide)), if_pos (ixg hi (by decide)), ix5, M6 5 (by decide), e5, h6 5 (by decide), ← D 5 (by decide), if_pos (show inR (T 5) ∧ inR (μ (10 + 2 + i) 5) from by have := D 5 (by decide); have := hD.2.2.2.2.2; have := hq.2.2.2.2.2; omega), if_neg (show ¬ w = 0 by omega), if_neg (show ¬ w = 1 by omega), if_neg (show ¬ w = 2 by omega), if_neg (show ¬ w = 3 by omega)]
            split <;> rfl
          · obtain ⟨v, rfl⟩ := Int.eq_ofNat_of_zero_le tt.1
            rw [if_neg w4, if_pos (show 0 ≤ ((4 + (6 * (i : Int))) + (2 + (v : Int))) ∧ ((4 + (6 * (i : Int))) + (2 + (v : Int))) < 52 by omega), ixk, M6 (2 + v) (by omega), ← D (2 + v) (by omega)]
            have hv : v = 0 ∨ v = 1 ∨ v = 2 ∨ v = 3 := by omega
            rcases hv with rfl | rfl | rfl | rfl <;> rfl
        exact ⟨_, _, _, f4, f5, Rf⟩
      · obtain ⟨t1, t2⟩ := oth_no t
        refine Op_ref N R (c := -2) (by decide) (g4 (-2) (by decide) (by rw [fst3 k o, t1])) (fun ν hν => ?_)
        have r1 : ν 1 = μ 1 := by rw [hν]; exact r4_c (by decide)
        simp only [M5_personThen]
        rw [M5_isOne_eq N hp (okR_congr a2 r1), Option.bind_some, r1, if_pos kk, if_pos (by decide), if_neg (by decide), M5_wrongBy_eq N hn (by decide) (by decide), Option.bind_some, o]
        simp only [J5_personThen_19]
        rw [if_pos (by decide), if_pos trivial, M5_isIn_eq N hw (by decide) (by decide), Option.bind_some, if_neg t2, if_pos (by decide), if_pos rfl, g39 ν (-2) (by decide)]
    · refine Op_ref N R (c := outZ n 0 99) (by omega) (g4 _ (by omega) (fst2 k o)) (fun ν hν => ?_)
      have r1 : ν 1 = μ 1 := by rw [hν]; exact r4_c (by decide)
      simp only [M5_personThen]
      rw [M5_isOne_eq N hp (okR_congr a2 r1), Option.bind_some, r1, if_pos kk, if_pos (by decide), if_neg (by decide), M5_wrongBy_eq N hn (by decide) (by decide), Option.bind_some, g19 ν _ (by omega)]
  · obtain ⟨k1, k2⟩ := unkZ_no k
    refine Op_ref N R (c := -1) (by decide) (g4 (-1) (by decide) (by rw [fst1 k, k1])) (fun ν hν => ?_)
    have r1 : ν 1 = μ 1 := by rw [hν]; exact r4_c (by decide)
    simp only [M5_personThen]
    rw [M5_isOne_eq N hp (okR_congr a2 r1), Option.bind_some, r1, if_neg k2, if_pos (by decide), if_pos rfl, g19 ν (-1) (by decide)]
end
section
/-! short and through on a day; lasts, enough -/
theorem shoP_in (q : Nat → Int) : 0 ≤ shoP q ∧ shoP q ≤ 1 := by unfold shoP; split <;> omega
theorem thrP_in (q : Nat → Int) : 0 ≤ thrP q ∧ thrP q ≤ 1 := by unfold thrP; split <;> omega
theorem shoP_congr {q q' : Nat → Int} (h : ∀ k, k < 6 → q k = q' k) : shoP q = shoP q' := by
  unfold shoP
  rw [h 0 (by decide), h 1 (by decide), h 2 (by decide), h 3 (by decide)]
theorem thrP_congr {q q' : Nat → Int} (h : ∀ k, k < 6 → q k = q' k) : thrP q = thrP q' := by
  unfold thrP
  rw [h 0 (by decide), h 1 (by decide), h 2 (by decide), h 3 (by decide)]
theorem M5_isShortOn_eq (N p : Nat) (hp : p < 8) {ν : mm} {q : Nat → Int} (h6 : at6 ν 4 p q) (h : okP q) : M5_isShortOn N (p : Int) ν = some (shoP q) := by
  have hn := needsZ_in (k := q 0) h.2.1
  obtain ⟨h0, h1, h2, h3, -⟩ := id h
  unfold M5_isShortOn shoP
  rw [if_pos (ixg hp (by decide)), ix3, h6 3 (by decide), if_pos (show inR (q 3) from by omega), if_pos (ixg hp (by decide)), ix2, h6 2 (by decide), M5_needs_eq N 4 p ν hp h6 h, Option.bind_some, if_pos (show inR (q 2) ∧ inR (needsZ (q 0) (q 1)) from by omega)]
  by_cases c : q 3 = 1
  · rw [if_pos c]
    by_cases d : needsZ (q 0) (q 1) ≤ q 2
    · rw [if_pos d, if_neg (fun z => z.2 d)]
    · rw [if_neg d, if_pos ⟨c, d⟩]
  · rw [if_neg c, if_neg (fun z => c z.1)]
theorem M5_isThroughOn_eq (N p : Nat) (hp : p < 8) {ν : mm} {q : Nat → Int} (h6 : at6 ν 4 p q) (h : okP q) : M5_isThroughOn N (p : Int) ν = some (thrP q) := by
  have hn := needsZ_in (k := q 0) h.2.1
  obtain ⟨h0, h1, h2, h3, -⟩ := id h
  unfold M5_isThroughOn thrP
  rw [if_pos (ixg hp (by decide)), ix3, h6 3 (by decide), if_pos (show inR (q 3) from by omega), if_pos (ixg hp (by decide)), ix2, h6 2 (by decide), M5_needs_eq N 4 p ν hp h6 h, Option.bind_some, if_pos (show inR (q 2) ∧ inR (needsZ (q 0) (q 1)) from by omega)]
  by_cases c : q 3 = 1
  · rw [if_pos c]
    by_cases d : needsZ (q 0) (q 1) ≤ q 2
    · rw [if_neg (show ¬ q 2 < needsZ (q 0) (q 1) by omega), if_pos ⟨c, d⟩]
    · rw [if_pos (show q 2 < needsZ (q 0) (q 1) by omega), if_neg (fun z => d z.2)]
  · rw [if_neg c, if_neg (fun z => c z.1)]
/-- how often short in n days -/
def shoN : Nat → (Nat → Int) → Int
  | 0, _ => 0
  | n + 1, q => shoN n q + shoP (dayI n q)
theorem shoN_mono (q : Nat → Int) (i : Nat) : ∀ d, 0 ≤ shoN i q ∧ shoN i q ≤ shoN (i + d) q ∧ shoN i q ≤ (i : Int) := by
  have h0 : ∀ i, 0 ≤ shoN i q ∧ shoN i q ≤ (i : Int) := by
    intro i
    induction i with
    | zero => exact ⟨Int.le_refl _, Int.le_refl _⟩
    | succ i ih =>
      have := shoP_in (dayI i q)
      show 0 ≤ shoN i q + shoP (dayI i q) ∧ shoN i q + shoP (dayI i q) ≤ ((i + 1 : Nat) : Int)
      omega
  intro d
  refine ⟨(h0 i).1, ?_, (h0 i).2⟩
  induction d with
  | zero => exact Int.le_refl _
  | succ d ih =>
    have := shoP_in (dayI (i + d) q)
    show shoN i q ≤ shoN (i + d) q + shoP (dayI (i + d) q)
    omega
theorem dysC_7 {q q' : Nat → Int} (h : ∀ k, k < 6 → q k = q' k) : ∀ n, dysC n q 7 = q 7 + shoN n q' := by
  intro n
  induction n with
  | zero => show q 7 = q 7 + 0; omega
  | succ n ih =>
    show dysC n q 7 + shoP (dysC n q) = q 7 + (shoN n q' + shoP (dayI n q'))
    rw [shoP_congr (q := dysC n q) (q' := dayI n q') (dysC_p h n)]
    omega
theorem okR_at {ν : mm} {r p : Nat} (h : okR ν r) (hp : (p : Int) < ν r 0) {q : Nat → Int} (h6 : at6 ν r p q) : okP q := okP_congr (h.2.2.2.2 p hp) (fun k hk => (h6 k hk).symm)
theorem isShortWithin_loop (N p n : Nat) (hN : 100 ≤ N) (hp : p < 8) (hn : n ≤ 100) (q : Nat → Int) (hq : okP q) : ∀ (k i : Nat) (ν : mm), i ≤ n → n < i + k → shoN i q = 0 → okR ν 2 → (p : Int) < ν 2 0 → ν 2 1 ≤ 2000 + (i : Int) → at6 ν 2 p (dayI i q) → ∃ ν', L5_isShortWithin_2 N k (p : Int) (n : Int) (i : Int) ν = some (if shoN n q = 0 then 0 else 1, ν') ∧ ∀ a, a ≠ 2 → a ≠ 4 → ν' a = ν a := by
  intro k
  induction k with
  | zero => intro i ν h1 h2; omega
  | succ k ih =>
    intro i ν h1 h2 hs ok hm hd h6
    rw [L5_isShortWithin_2, if_pos (show inR (i : Int) ∧ inR (n : Int) from by omega)]
    by_cases c : (n : Int) ≤ (i : Int)
    · obtain rfl : i = n := by omega
      rw [if_pos c, if_pos hs]
      exact ⟨ν, rfl, fun a _ _ => rfl⟩
    · have e2 : cp 2 4 ν 2 = ν 2 := cp_row (by decide)
      have ok2 : okR (cp 2 4 ν) 2 := okR_congr ok e2
      have h4 : at6 (dayR 2 (cp 2 4 ν)) 4 p (dayI i q) := by
        intro k hk
        rw [dayR_c (by decide)]
        exact cp_at hp h6 k hk
      have fr : ∀ a, a ≠ 2 → a ≠ 4 → dayR 2 (cp 2 4 ν) a = ν a := by
        intro a h2 h4
        rw [show dayR 2 (cp 2 4 ν) a = cp 2 4 ν a from funext fun b => dayR_c h2, cp_row h4]
      rw [if_neg c, M5_copies_eq N 2 4 (by omega) (by decide), Option.bind_some, M5_day_eq N 2 (by omega) ok2, Option.bind_some, M5_isShortOn_eq N p hp h4 (dayI_ok hq i), Option.bind_some]
      have hsp := shoP_in (dayI i q)
      rw [if_pos (show inR (shoP (dayI i q)) from by omega)]
      by_cases d : shoP (dayI i q) = 0
      · rw [if_pos d]
        obtain ⟨ν', e, f⟩ := ih (i + 1) (dayR 2 (cp 2 4 ν)) (by omega) (by omega) (by show shoN i q + shoP (dayI i q) = 0; omega) (dayR_ok ok2 (by rw [e2]; omega)) (by rw [show dayR 2 (cp 2 4 ν) 2 0 = cp 2 4 ν 2 0 from dayN_many, e2]; exact hm) (by rw [show dayR 2 (cp 2 4 ν) 2 1 = cp 2 4 ν 2 1 + 1 from dayN_day, e2]; omega) (dayR_at (by rw [e2]; exact hm) (by intro k hk; rw [e2]; exact h6 k hk))
        exact ⟨ν', e, fun a h2 h4 => (f a h2 h4).trans (fr a h2 h4)⟩
      · rw [if_neg d]
        have := (shoN_mono q (i + 1) (n - (i + 1))).2.1
        rw [show i + 1 + (n - (i + 1)) = n by omega, show shoN (i + 1) q = shoN i q + shoP (dayI i q) from rfl] at this
        rw [if_neg (show ¬ shoN n q = 0 by omega)]
        exact ⟨_, rfl, fr⟩
/-- the first number from v on, of k in all -/
def enZ (f : Nat → Int) : Nat → Nat → Int
  | 0, _ => -9
  | k + 1, v => if f v = 0 then (v : Int) else enZ f k (v + 1)
theorem enough4 (N : Nat) {μ : mm} {p : Nat} (hp : p < 8) (hq : okP (μ (10 + 2 + p))) (n : Nat) (hn : n ≤ 100) (hN : 200 ≤ N) : ∀ (k v : Nat) (ν : mm), v ≤ 100 → 100 < v + k → (∀ a, a ≠ 43 → ν a = μ a) → ∃ ν', L4_enough_30 N k (p : Int) (n : Int) (v : Int) ν = some (enZ (fun v => shoN n (fu (μ (10 + 2 + p)) 2 (v : Int))) (100 - v) v, ν') ∧ ∀ a, a ≠ 43 → ν' a = μ a := by
  intro k
  induction k with
  | zero => intro v ν h1 h2; omega
  | succ k ih =>
    intro v ν h1 h2 hf
    rw [L4_enough_30, if_pos (show inR (v : Int) from by omega)]
    by_cases c : 99 < (v : Int)
    · rw [if_pos c, show 100 - v = 0 by omega]
      exact ⟨ν, rfl, hf⟩
    · have ec := hf (10 + 2 + p) (by omega)
      have hq' : okP (ν (10 + 2 + p)) := by rw [ec]; exact hq
      rw [if_neg c, M4_thought_eq N hp hq' (has := (v : Int)) (by omega) n (by omega) (by omega), Option.bind_some]
      dsimp only
      have e7 : putC ν 43 (dysC n (trialQ ν (10 + 2 + p) (v : Int))) 43 7 = shoN n (fu (μ (10 + 2 + p)) 2 (v : Int)) := by
        rw [putC_s, dysC_7 (q' := fu (μ (10 + 2 + p)) 2 (v : Int)) (fun k hk => ?_)]
        · show 0 + _ = _
          omega
        · unfold trialQ fu
          rw [ec]
          by_cases h2 : k = 2
          · rw [if_pos h2, if_pos h2]
          · rw [if_neg h2, if_neg h2, if_pos hk]
      have hs := shoN_mono (fu (μ (10 + 2 + p)) 2 (v : Int)) n 0
      have hf' : ∀ a, a ≠ 43 → putC ν 43 (dysC n (trialQ ν (10 + 2 + p) (v : Int))) a = μ a := fun a h => (putC_row h).trans (hf a h)
      rw [if_pos (by decide)]
      simp only [e7]
      rw [if_pos (show inR (shoN n (fu (μ (10 + 2 + p)) 2 (v : Int))) from by omega), show 100 - v = (100 - (v + 1)) + 1 by omega, enZ]
      by_cases d : shoN n (fu (μ (10 + 2 + p)) 2 (v : Int)) = 0
      · rw [if_pos d, if_pos d]
        exact ⟨_, rfl, hf'⟩
      · rw [if_neg d, if_neg d]
        exact ih (v + 1) _ (by omega) (by omega) hf'
theorem enough5 (N : Nat) {μ : mm} {p : Nat} (hp : (p : Int) < μ 1 0) (ok : okR μ 1) (hd : μ 1 1 ≤ 999) (q : Nat → Int) (h6 : at6 μ 1 p q) (n : Nat) (hn : n ≤ 100) (hN : 200 ≤ N) : ∀ (k v : Nat) (ν : mm), v ≤ 100 → 100 < v + k → (∀ a, a ≠ 2 → a ≠ 4 → ν a = μ a) → ∃ ν', L5_enough_33 N k (p : Int) (n : Int) (v : Int) ν = some (enZ (fun v => shoN n (fu q 2 (v : Int))) (100 - v) v, ν') ∧ ∀ a, a ≠ 2 → a ≠ 4 → ν' a = μ a := by
  have hm := ok.1
  have hp8 : p < 8 := by omega
  have hq : okP q := okR_at ok hp h6
  intro k
  induction k with
  | zero => intro v ν h1 h2; omega
  | succ k ih =>
    intro v ν h1 h2 hf
    rw [L5_enough_33, if_pos (show inR (v : Int) from by omega)]
    by_cases c : 100 ≤ (v : Int)
    · rw [if_pos c, show 100 - v = 0 by omega]
      exact ⟨ν, rfl, hf⟩
    · have e1 := hf 1 (by decide) (by decide)
      have ok2 : okR (cp 1 2 ν) 2 := cp_ok (okR_congr ok e1)
      have hq' : okP (fu q 2 (v : Int)) := ⟨hq.1, hq.2.1, by show 0 ≤ (v : Int) ∧ (v : Int) ≤ 99; omega, hq.2.2.2.1, hq.2.2.2.2.1, hq.2.2.2.2.2⟩
      have h62 : at6 (cp 1 2 ν) 2 p q := cp_at hp8 (by intro k hk; rw [e1]; exact h6 k hk)
      have ep : mu (cp 1 2 ν) 2 (4 + 6 * p + 2) (v : Int) = putP (cp 1 2 ν) 2 p (fu q 2 (v : Int)) := by
        rw [← putP_mu (by decide), putP_of h62]
      have e20 : cp 1 2 ν 2 0 = μ 1 0 := by rw [cp_to (by decide), e1]
      have e21 : cp 1 2 ν 2 1 = μ 1 1 := by rw [cp_to (by decide), e1]
      have okp : okR (putP (cp 1 2 ν) 2 p (fu q 2 (v : Int))) 2 := by
        obtain ⟨o1, o2, o3, o4, o5⟩ := ok2
        refine ⟨by rw [putP_lo (by decide)]; exact o1, by rw [putP_lo (by decide)]; exact o2, by rw [putP_lo (by decide)]; exact o3, by rw [putP_lo (by decide)]; exact o4, fun p' hp' => ?_⟩
        rw [putP_lo (by decide)] at hp'
        by_cases t : p' = p
        · subst t
          exact okP_congr hq' (fun k hk => putP_at k hk)
        · exact okP_congr (o5 p' hp') (fun k hk => putP_ne (pq_at (cp 1 2 ν) 2 p') t k hk)
      rw [if_neg c, M5_copies_eq N 1 2 (by omega) (by decide), Option.bind_some, if_pos (ixg hp8 (by decide)), ix2]
      simp only [bnd]
      rw [ep]
      obtain ⟨ν', e, f⟩ := isShortWithin_loop N p n (by omega) hp8 hn (fu q 2 (v : Int)) hq' N 0 (putP (cp 1 2 ν) 2 p (fu q 2 (v : Int))) (by omega) (by omega) rfl okp (by rw [putP_lo (by decide), e20]; exact hp) (by rw [putP_lo (by decide), e21]; omega) putP_at
      have fr : ∀ a, a ≠ 2 → a ≠ 4 → ν' a = μ a := by
        intro a h2 h4
        rw [f a h2 h4, show putP (cp 1 2 ν) 2 p (fu q 2 (v : Int)) a = cp 1 2 ν a from funext fun b => putP_c h2, cp_row h2, hf a h2 h4]
      unfold M5_isShortWithin
      rw [show ((0 : Nat) : Int) = 0 from rfl] at e
      rw [e, Option.bind_some]
      dsimp only
      rw [show 100 - v = (100 - (v + 1)) + 1 by omega, enZ]
      by_cases d : shoN n (fu q 2 (v : Int)) = 0
      · rw [if_pos d, if_pos d, if_pos (by decide), if_pos rfl]
        exact ⟨ν', rfl, fr⟩
      · rw [if_neg d, if_neg d, if_pos (by decide), if_neg (by decide)]
        exact ih (v + 1) ν' (by omega) (by omega) fr
theorem dayI_congr {q q' : Nat → Int} (h : ∀ k, k < 6 → q k = q' k) : ∀ n k, k < 6 → dayI n q k = dayI n q' k := by
  intro n
  induction n with
  | zero => exact h
  | succ n ih => exact dayP_congr ih
theorem op_enough (N : Nat) (hN : 200 ≤ N) {μ : mm} (R : Rel μ) {p n : Int} (hp : inR p) (hn : inR n) : Op (M4_enough N p n) (M5_enough N p n) μ := by
  obtain ⟨⟨a1, a2, a3⟩, -⟩ := id R
  have hm := a2.1
  have hu := unkZ_in μ p
  have ho := outZ_in n 1 60
  have g19 : ∀ (ν : mm) (c : Int), -6 ≤ c ∧ c ≤ -1 → J5_enough_19 N p n c ν = M5_no N c ν := by
    intro ν c hc
    simp only [J5_enough_19]
    rw [if_pos (show inR c from by omega), if_neg (show ¬ c = 0 by omega), rf5 N (by omega)]
  by_cases k : unkZ μ p = 0
  · have kk := unkZ_0 k
    obtain ⟨i, rfl⟩ := Int.eq_ofNat_of_zero_le kk.1
    have hi : i < 8 := by omega
    have h6 := a1.2.2.2.2 i kk.2
    have hq := offP a1 a2 kk.2
    by_cases o : outZ n 1 60 = 0
    · have oo := outZ_0 o
      obtain ⟨j, rfl⟩ := Int.eq_ofNat_of_zero_le (show 0 ≤ n by omega)
      obtain ⟨μ1, e1, f1⟩ := enough4 N hi hq j (by omega) hN N 0 μ (by omega) (by omega) (fun _ _ => rfl)
      have r1 := f1 1 (by decide)
      have ok1 : okR μ1 1 := okR_congr a2 r1
      obtain ⟨μ2, e2, f2⟩ := enough5 N (μ := μ1) (p := i) (by rw [r1]; exact kk.2) ok1 (by rw [r1]; exact a3) (μ (10 + 2 + i)) (by intro k hk; rw [r1]; exact h6 k hk) j (by omega) hN N 0 μ1 (by omega) (by omega) (fun _ _ _ => rfl)
      rw [show ((0 : Nat) : Int) = 0 from rfl] at e1 e2
      refine ⟨enZ (fun v => shoN j (fu (μ (10 + 2 + i)) 2 (v : Int))) (100 - 0) 0, μ1, μ2, ?_, ?_, Rel_m R (fun a h43 h2 h4 => (f2 a h2 h4).trans (f1 a h43))⟩
      · simp only [M4_enough]
        rw [M4_unknown_eq N hp a1 a2, Option.bind_some, M4_outside_eq N hn (by decide) (by decide), Option.bind_some, M4_firstOf_eq N hu ho, Option.bind_some, fst0 k o, if_pos (by decide), if_pos rfl]
        exact e1
      · simp only [M5_enough]
        rw [M5_isOne_eq N hp ok1, Option.bind_some, r1, if_pos kk, if_pos (by decide), if_neg (by decide), M5_wrongBy_eq N hn (by decide) (by decide), Option.bind_some, o]
        simp only [J5_enough_19]
        rw [if_pos (by decide), if_pos trivial]
        exact e2
    · refine Op_ref N R (c := outZ n 1 60) (by omega) ?_ (fun ν hν => ?_)
      · simp only [M4_enough]
        rw [M4_unknown_eq N hp a1 a2, Option.bind_some, M4_outside_eq N hn (by decide) (by decide), Option.bind_some, M4_firstOf_eq N hu ho, Option.bind_some, fst2 k o, if_pos (show inR (outZ n 1 60) from by omega), if_neg o, rf4 N ho]
      · have r1 : ν 1 = μ 1 := by rw [hν]; exact r4_c (by decide)
        simp only [M5_enough]
        rw [M5_isOne_eq N hp (okR_congr a2 r1), Option.bind_some, r1, if_pos kk, if_pos (by decide), if_neg (by decide), M5_wrongBy_eq N hn (by decide) (by decide), Option.bind_some, g19 ν _ (by omega)]
  · obtain ⟨k1, k2⟩ := unkZ_no k
    refine Op_ref N R (c := -1) (by decide) ?_ (fun ν hν => ?_)
    · simp only [M4_enough]
      rw [M4_unknown_eq N hp a1 a2, Option.bind_some, M4_outside_eq N hn (by decide) (by decide), Option.bind_some, M4_firstOf_eq N hu ho, Option.bind_some, fst1 k, k1, if_pos (by decide), if_neg (by decide), rf4 N (by decide)]
    · have r1 : ν 1 = μ 1 := by rw [hν]; exact r4_c (by decide)
      simp only [M5_enough]
      rw [M5_isOne_eq N hp (okR_congr a2 r1), Option.bind_some, r1, if_neg k2, if_pos (by decide), if_pos rfl, g19 ν (-1) (by decide)]
end
section
/-! lasts, first -/
def lastZ (q : Nat → Int) : Nat → Nat → Int → Int
  | 0, _, x => x
  | k + 1, i, x => if shoP (dayI i q) = 0 then lastZ q k (i + 1) (x + thrP (dayI i q)) else x
theorem dysC_6 {q q' : Nat → Int} (h : ∀ k, k < 6 → q k = q' k) (n : Nat) : dysC (n + 1) q 6 = dysC n q 6 + thrP (dayI n q') := by
  show dysC n q 6 + thrP (dysC n q) = _
  rw [thrP_congr (q := dysC n q) (q' := dayI n q') (dysC_p h n)]
theorem sho_thr {q : Nat → Int} (h : ¬ shoP q = 0) : thrP q = 0 := by
  unfold shoP at h
  unfold thrP
  by_cases c : q 3 = 1 ∧ ¬ needsZ (q 0) (q 1) ≤ q 2
  · rw [if_neg (fun z => c.2 z.2)]
  · rw [if_neg c] at h
    exact absurd rfl h
theorem lasts4 (N : Nat) {μ : mm} {q q' : Nat → Int} (hq : okP q) (h : ∀ k, k < 6 → q k = q' k) (h7 : q 7 = 0) : ∀ (k i : Nat), i ≤ 99 → 100 < i + k → dysC i q 7 = 0 → ∃ T : Nat → Int, L4_lasts_33 N k ((i : Int) + 1) (putC μ 43 (dysC i q)) = some (lastZ q' (99 - i) i (dysC i q 6), putC μ 43 T) := by
  intro k
  induction k with
  | zero => intro i h1 h2; omega
  | succ k ih =>
    intro i h1 h2 hs
    have e7 : putC μ 43 (dysC i q) 43 7 = 0 := (congrFun putC_s 7).trans hs
    have e6 : putC μ 43 (dysC i q) 43 6 = dysC i q 6 := congrFun putC_s 6
    rw [L4_lasts_33, if_pos (show inR ((i : Int) + 1) from by omega)]
    by_cases c : 99 < (i : Int) + 1
    · rw [if_pos c, show 99 - i = 0 by omega, e6]
      exact ⟨_, rfl⟩
    · rw [if_neg c, if_pos (show inR (putC μ 43 (dysC i q) 43 7) by rw [e7]; decide), if_pos e7, M2_oneDay_eq N 43 (by rw [putC_s]; exact dysC_ok hq i), Option.bind_some, putC_s, putC_putC]
      dsimp only
      have n7 : dysC (i + 1) q 7 = shoP (dayI i q') := by
        show dysC i q 7 + shoP (dysC i q) = _
        rw [shoP_congr (q := dysC i q) (q' := dayI i q') (dysC_p h i), hs]
        omega
      have n6 := dysC_6 h i
      rw [show 99 - i = (99 - (i + 1)) + 1 by omega, lastZ]
      by_cases d : shoP (dayI i q') = 0
      · rw [if_pos d, ← n6]
        obtain ⟨T, e⟩ := ih (i + 1) (by omega) (by omega) (by rw [n7]; exact d)
        exact ⟨T, e⟩
      · rw [if_neg d]
        obtain ⟨k', rfl⟩ : ∃ k', k = k' + 1 := ⟨k - 1, by omega⟩
        have hsp := shoP_in (dayI i q')
        have z7 : putC μ 43 (dayC (dysC i q)) 43 7 = shoP (dayI i q') := (congrFun putC_s 7).trans n7
        have z6 : putC μ 43 (dayC (dysC i q)) 43 6 = dysC i q 6 := (congrFun putC_s 6).trans (n6.trans (by rw [sho_thr d]; omega))
        refine ⟨dayC (dysC i q), ?_⟩
        rw [L4_lasts_33, if_pos (show inR ((i : Int) + 1 + 1) from by omega), if_pos (show inR (putC μ 43 (dayC (dysC i q)) 43 7) by rw [z7]; omega), if_neg (show ¬ putC μ 43 (dayC (dysC i q)) 43 7 = 0 by rw [z7]; exact d), z6]
        split <;> rfl
theorem lasts5 (N p : Nat) (hN : 100 ≤ N) (hp : p < 8) (q : Nat → Int) (hq : okP q) : ∀ (k i : Nat) (x : Int) (ν : mm), i ≤ 99 → 99 < i + k → okR ν 2 → (p : Int) < ν 2 0 → ν 2 1 ≤ 2000 + (i : Int) → at6 ν 2 p (dayI i q) → ∃ ν', L5_lasts_29 N k (p : Int) x ((i : Int) + 1) ν = some (lastZ q (99 - i) i x, ν') ∧ ∀ a, a ≠ 2 → a ≠ 4 → ν' a = ν a := by
  intro k
  induction k with
  | zero => intro i x ν h1 h2; omega
  | succ k ih =>
    intro i x ν h1 h2 ok hm hd h6
    rw [L5_lasts_29, if_pos (show inR ((i : Int) + 1) from by omega)]
    by_cases c : 99 < (i : Int) + 1
    · rw [if_pos c, show 99 - i = 0 by omega]
      exact ⟨ν, rfl, fun a _ _ => rfl⟩
    · have e2 : cp 2 4 ν 2 = ν 2 := cp_row (by decide)
      have ok2 : okR (cp 2 4 ν) 2 := okR_congr ok e2
      have h4 : at6 (dayR 2 (cp 2 4 ν)) 4 p (dayI i q) := by
        intro k hk
        rw [dayR_c (by decide)]
        exact cp_at hp h6 k hk
      have fr : ∀ a, a ≠ 2 → a ≠ 4 → dayR 2 (cp 2 4 ν) a = ν a := by
        intro a h2 h4
        rw [show dayR 2 (cp 2 4 ν) a = cp 2 4 ν a from funext fun b => dayR_c h2, cp_row h4]
      have hsp := shoP_in (dayI i q)
      have htp := thrP_in (dayI i q)
      rw [if_neg c, M5_copies_eq N 2 4 (by omega) (by decide), Option.bind_some, M5_day_eq N 2 (by omega) ok2, Option.bind_some, M5_isShortOn_eq N p hp h4 (dayI_ok hq i), Option.bind_some, if_pos (show inR (shoP (dayI i q)) from by omega), show 99 - i = (99 - (i + 1)) + 1 by omega, lastZ]
      by_cases d : shoP (dayI i q) = 0
      · have nx : ∀ y : Int, ∃ ν', L5_lasts_29 N k (p : Int) y ((i : Int) + 1 + 1) (dayR 2 (cp 2 4 ν)) = some (lastZ q (99 - (i + 1)) (i + 1) y, ν') ∧ ∀ a, a ≠ 2 → a ≠ 4 → ν' a = ν a := by
          intro y
          obtain ⟨ν', e, f⟩ := ih (i + 1) y (dayR 2 (cp 2 4 ν)) (by omega) (by omega) (dayR_ok ok2 (by rw [e2]; omega)) (by rw [show dayR 2 (cp 2 4 ν) 2 0 = cp 2 4 ν 2 0 from dayN_many, e2]; exact hm) (by rw [show dayR 2 (cp 2 4 ν) 2 1 = cp 2 4 ν 2 1 + 1 from dayN_day, e2]; omega) (dayR_at (by rw [e2]; exact hm) (by intro k hk; rw [e2]; exact h6 k hk))
          exact ⟨ν', e, fun a h2 h4 => (f a h2 h4).trans (fr a h2 h4)⟩
        rw [if_pos d, if_pos d, M5_isThroughOn_eq N p hp h4 (dayI_ok hq i), Option.bind_some, if_pos (show inR (thrP (dayI i q)) from by omega)]
        simp only [J5_lasts_77, bnd]
        by_cases t : thrP (dayI i q) = 0
        · rw [if_pos t, t]
          exact nx (x + 0)
        · rw [if_neg t, show thrP (dayI i q) = 1 by omega]
          exact nx (x + 1)
      · rw [if_neg d, if_neg d]
        exact ⟨_, rfl, fr⟩
theorem tkP_putC (μ : mm) (c : Nat) : tkP 43 c μ = putC μ 43 (trialQ μ c (μ c 2)) := by
  rw [← trial_mu]
  funext x y
  unfold mu
  by_cases h : x = 43 ∧ y = 2
  · obtain ⟨rfl, rfl⟩ := h
    rw [if_pos ⟨rfl, rfl⟩]
    unfold tkP
    rw [if_pos (by decide), if_pos (by decide)]
  · rw [if_neg h]
theorem op_lasts (N : Nat) (hN : 200 ≤ N) {μ : mm} (R : Rel μ) {p : Int} (hp : inR p) : Op (M4_lasts N p) (M5_lasts N p) μ := by
  obtain ⟨⟨a1, a2, a3⟩, -⟩ := id R
  have hm := a2.1
  have hu := unkZ_in μ p
  by_cases k : unkZ μ p = 0
  · have kk := unkZ_0 k
    obtain ⟨i, rfl⟩ := Int.eq_ofNat_of_zero_le kk.1
    have hi : i < 8 := by omega
    have h6 := a1.2.2.2.2 i kk.2
    have hq := offP a1 a2 kk.2
    have hT : okP (trialQ μ (10 + 2 + i) (μ (10 + 2 + i) 2)) := trialQ_ok hq hq.2.2.1
    obtain ⟨T, e1⟩ := lasts4 N (μ := μ) (q := trialQ μ (10 + 2 + i) (μ (10 + 2 + i) 2)) (q' := μ (10 + 2 + i)) hT trialQ_p rfl N 0 (by omega) (by omega) rfl
    have r1 : putC μ 43 T 1 = μ 1 := putC_row (by decide)
    have ok1 : okR (putC μ 43 T) 1 := okR_congr a2 r1
    have okc : okR (cp 1 2 (putC μ 43 T)) 2 := cp_ok ok1
    have c0 : cp 1 2 (putC μ 43 T) 2 0 = μ 1 0 := by rw [cp_to (by decide), r1]
    have c1 : cp 1 2 (putC μ 43 T) 2 1 = μ 1 1 := by rw [cp_to (by decide), r1]
    obtain ⟨ν', e2, f2⟩ := lasts5 N i (by omega) hi (μ (10 + 2 + i)) hq N 0 0 (cp 1 2 (putC μ 43 T)) (by omega) (by omega) okc (by rw [c0]; exact kk.2) (by rw [c1]; omega) (cp_at hi (by intro k hk; rw [r1]; exact h6 k hk))
    rw [show ((0 : Nat) : Int) + 1 = 1 from rfl] at e1 e2
    refine ⟨lastZ (μ (10 + 2 + i)) (99 - 0) 0 0, putC μ 43 T, ν', ?_, ?_, Rel_m R (fun a h43 h2 h4 => by rw [f2 a h2 h4, cp_row h2, putC_row h43])⟩
    · simp only [M4_lasts]
      rw [M4_unknown_eq N hp a1 a2, Option.bind_some, k, if_pos (by decide), if_pos rfl, M1_at_eq N 10 i hi, Option.bind_some, if_pos (kdo (Or.inl rfl) hi), M2_takeFrom_eq N (by omega), Option.bind_some, tkP_putC]
      exact e1
    · simp only [M5_lasts]
      rw [M5_isOne_eq N hp ok1, Option.bind_some, r1, if_pos kk, if_pos (by decide), if_neg (by decide), M5_copies_eq N 1 2 (by omega) (by decide), Option.bind_some]
      exact e2
  · obtain ⟨k1, k2⟩ := unkZ_no k
    refine Op_ref N R (c := -1) (by decide) ?_ (fun ν hν => ?_)
    · simp only [M4_lasts]
      rw [M4_unknown_eq N hp a1 a2, Option.bind_some, k1, if_pos (by decide), if_neg (by decide), rf4 N (by decide)]
    · have r1 : ν 1 = μ 1 := by rw [hν]; exact r4_c (by decide)
      simp only [M5_lasts]
      rw [M5_isOne_eq N hp (okR_congr a2 r1), Option.bind_some, r1, if_neg k2, if_pos (by decide), if_pos rfl, rf5 N (by decide)]
end
section
/-! first -/
def fmZ (f : Nat → Int) : Nat → Nat → Int
  | 0, _ => -9
  | k + 1, p => if f p = 0 then fmZ f k (p + 1) else (p : Int)
theorem fmZ_in (f : Nat → Int) : ∀ k p, fmZ f k p = -9 ∨ ((p : Int) ≤ fmZ f k p ∧ fmZ f k p < (p : Int) + k) := by
  intro k
  induction k with
  | zero => intro p; exact Or.inl rfl
  | succ k ih =>
    intro p
    unfold fmZ
    by_cases c : f p = 0
    · rw [if_pos c]
      have := ih (p + 1)
      omega
    · rw [if_neg c]
      omega
theorem fmZ_congr {f g : Nat → Int} : ∀ k p, (∀ i, p ≤ i → i < p + k → f i = g i) → fmZ f k p = fmZ g k p := by
  intro k
  induction k with
  | zero => intro p _; rfl
  | succ k ih =>
    intro p h
    unfold fmZ
    rw [h p (by omega) (by omega), ih (p + 1) (fun i h1 h2 => h i (by omega) (by omega))]
theorem firstMissing_loop (N : Nat) {o : Nat} (ho : isO o) {ξ : mm} (hm : 0 ≤ ξ o 2 ∧ ξ o 2 ≤ 8) (hv : ∀ p : Nat, (p : Int) < ξ o 2 → 0 ≤ ξ (o + 2 + p) 7 ∧ ξ (o + 2 + p) 7 ≤ 1) : ∀ (k p : Nat), (p : Int) ≤ ξ o 2 → ξ o 2 < (p : Int) + k → L1_firstMissing_2 N k o (p : Int) ξ = some (fmZ (fun p => ξ (o + 2 + p) 7) ((ξ o 2).toNat - p) p) := by
  intro k
  induction k with
  | zero => intro p h1 h2; omega
  | succ k ih =>
    intro p h1 h2
    rw [L1_firstMissing_2, if_pos (show inR (p : Int) ∧ inR (ξ o 2) from by omega)]
    by_cases c : ξ o 2 ≤ (p : Int)
    · rw [if_pos c, show (ξ o 2).toNat - p = 0 by omega]
      rfl
    · have hp : p < 8 := by omega
      have hh := hv p (by omega)
      rw [if_neg c, M1_at_eq N o p hp, Option.bind_some, if_pos (kdO ho hp), if_pos (show inR (ξ (o + 2 + p) 7) from by omega), show (ξ o 2).toNat - p = ((ξ o 2).toNat - (p + 1)) + 1 by omega, fmZ]
      by_cases d : ξ (o + 2 + p) 7 = 0
      · rw [if_pos (show ξ (o + 2 + p) 7 ≤ 0 by omega), if_pos d]
        exact ih (p + 1) (by omega) (by omega)
      · rw [if_neg (show ¬ ξ (o + 2 + p) 7 ≤ 0 by omega), if_neg d]
theorem first55 (N : Nat) (rec29 : Int → Int → mm → Option (Int × mm)) {ν : mm} (hm : 0 ≤ ν 1 0 ∧ ν 1 0 ≤ 8) (hv : ∀ p : Nat, (p : Int) < ν 1 0 → okP (pq ν 4 p)) {w x : Int} (hw : inR w) : ∀ (k p : Nat), (p : Int) ≤ ν 1 0 → ν 1 0 < (p : Int) + k → L5_first_55 N rec29 k w x (p : Int) ν = if fmZ (fun p => shoP (pq ν 4 p)) ((ν 1 0).toNat - p) p < 0 then rec29 w (x + 1) ν else some (if w = 0 then fmZ (fun p => shoP (pq ν 4 p)) ((ν 1 0).toNat - p) p else x, ν) := by
  intro k
  induction k with
  | zero => intro p h1 h2; omega
  | succ k ih =>
    intro p h1 h2
    rw [L5_first_55, if_pos (show inR (p : Int) ∧ inR (ν 1 0) from by omega)]
    by_cases c : ν 1 0 ≤ (p : Int)
    · rw [if_pos c, show (ν 1 0).toNat - p = 0 by omega, fmZ, if_pos (show (-9 : Int) < 0 by decide)]
    · have hp : p < 8 := by omega
      have hs := shoP_in (pq ν 4 p)
      rw [if_neg c, M5_isShortOn_eq N p hp (pq_at ν 4 p) (hv p (by omega)), Option.bind_some, if_pos (show inR (shoP (pq ν 4 p)) from by omega), show (ν 1 0).toNat - p = ((ν 1 0).toNat - (p + 1)) + 1 by omega, fmZ]
      by_cases d : shoP (pq ν 4 p) = 0
      · rw [if_pos d, if_pos d]
        exact ih (p + 1) (by omega) (by omega)
      · rw [if_neg d, if_neg d, if_neg (show ¬ (p : Int) < 0 by omega), if_pos hw]
        by_cases e : w = 0
        · rw [if_pos e, if_pos e]
        · rw [if_neg e, if_neg e]
theorem first_loop (N : Nat) (hN : 200 ≤ N) {w : Int} (hw : inR w) : ∀ (k i : Nat) (ξ : mm), i ≤ 99 → 99 < i + k → okO ξ 21 → (∀ p : Nat, (p : Int) < ξ 21 2 → ξ (21 + 2 + p) 7 = 0) →
    ∃ (r : Int) (ξ' : mm), L4_first_29 N k w ((i : Int) + 1) ξ = some (r, ξ') ∧ (∀ a, a ≠ 21 → (a < 23 ∨ 31 ≤ a) → ξ' a = ξ a) ∧
      ∀ ν : mm, relX 21 2 ξ ν → okR ν 2 → ν 1 0 = ν 2 0 → ν 2 1 ≤ 2000 + (i : Int) → ∃ ν', L5_first_29 N k w ((i : Int) + 1) ν = some (r, ν') ∧ ∀ a, a ≠ 2 → a ≠ 4 → ν' a = ν a := by
  intro k
  induction k with
  | zero => intro i ξ h1 h2; omega
  | succ k ih =>
    intro i ξ h1 h2 ok h7
    by_cases c : 99 < (i : Int) + 1
    · refine ⟨-9, ξ, ?_, fun _ _ _ => rfl, fun ν _ _ _ _ => ⟨ν, ?_, fun _ _ _ => rfl⟩⟩
      · rw [L4_first_29, if_pos (show inR ((i : Int) + 1) from by omega), if_pos c]
      · rw [L5_first_29, if_pos (show inR ((i : Int) + 1) from by omega), if_pos c]
    · have hm := ok.1
      have eD := M1_daysGoBy_eq N (o := 21) (Or.inr (Or.inl rfl)) (by omega) ok 1 (by decide) (by omega)
      rw [show ((1 : Nat) : Int) = 1 from rfl, show dysO 21 1 ξ = dyO 21 ξ from rfl] at eD
      have okD := dyO_ok ok
      have m2 : dyO 21 ξ 21 2 = ξ 21 2 := dyN_sc (by decide) (by decide)
      have v7 : ∀ p : Nat, (p : Int) < ξ 21 2 → dyO 21 ξ (21 + 2 + p) 7 = shoP (ξ (21 + 2 + p)) := by
        intro p hp
        have e : dyO 21 ξ (21 + 2 + p) = dayC (ξ (21 + 2 + p)) := dyN_p (by omega)
        rw [e]
        show ξ (21 + 2 + p) 7 + shoP (ξ (21 + 2 + p)) = _
        rw [h7 p hp]
        omega
      have frD : ∀ a, a ≠ 21 → (a < 23 ∨ 31 ≤ a) → dyO 21 ξ a = ξ a := fun a h1 h2 => dyN_c h1 (by omega)
      have eF := firstMissing_loop N (o := 21) (Or.inr (Or.inl rfl)) (ξ := dyO 21 ξ) okD.1 (fun p hp => by rw [v7 p (by omega)]; exact shoP_in _) N 0 (by omega) (by omega)
      have eC : fmZ (fun p => dyO 21 ξ (21 + 2 + p) 7) ((dyO 21 ξ 21 2).toNat - 0) 0 = fmZ (fun p => shoP (ξ (21 + 2 + p))) ((ξ 21 2).toNat - 0) 0 := by
        rw [m2]
        exact fmZ_congr _ _ (fun j _ hj => v7 j (by omega))
      rw [eC, show ((0 : Nat) : Int) = 0 from rfl] at eF
      have hz := fmZ_in (fun p => shoP (ξ (21 + 2 + p))) ((ξ 21 2).toNat - 0) 0
      generalize hZ : fmZ (fun p => shoP (ξ (21 + 2 + p))) ((ξ 21 2).toNat - 0) 0 = z at eF hz
      have g4 : L4_first_29 N (k + 1) w ((i : Int) + 1) ξ = if z < 0 then L4_first_29 N k w ((i : Int) + 1 + 1) (dyO 21 ξ) else some (if w = 0 then z else (i : Int) + 1, dyO 21 ξ) := by
        rw [L4_first_29, if_pos (show inR ((i : Int) + 1) from by omega), if_neg c, eD, Option.bind_some]
        unfold M1_firstMissing
        rw [eF, Option.bind_some, if_pos (show inR z from by omega), if_pos hw]
        split
        · rfl
        · split <;> rfl
      have g5 : ∀ ν : mm, relX 21 2 ξ ν → okR ν 2 → ν 1 0 = ν 2 0 → L5_first_29 N (k + 1) w ((i : Int) + 1) ν = if z < 0 then L5_first_29 N k w ((i : Int) + 1 + 1) (dayR 2 (cp 2 4 ν)) else some (if w = 0 then z else (i : Int) + 1, dayR 2 (cp 2 4 ν)) := by
        intro ν X okν e12
        have e2 : cp 2 4 ν 2 = ν 2 := cp_row (by decide)
        have ok2 : okR (cp 2 4 ν) 2 := okR_congr okν e2
        have e1 : dayR 2 (cp 2 4 ν) 1 0 = ν 1 0 := (dayR_c (by decide)).trans (cp_c (by decide))
        have hm2 := okν.1
        have e4 : ∀ p : Nat, p < 8 → ∀ t, t < 6 → pq (dayR 2 (cp 2 4 ν)) 4 p t = pq ν 2 p t := by
          intro p hp t ht
          exact (dayR_c (by decide)).trans (cp_to (by omega))
        rw [L5_first_29, if_pos (show inR ((i : Int) + 1) from by omega), if_neg c, M5_copies_eq N 2 4 (by omega) (by decide), Option.bind_some, M5_day_eq N 2 (by omega) ok2, Option.bind_some]
        have := first55 N (L5_first_29 N k) (ν := dayR 2 (cp 2 4 ν)) (by rw [e1, e12]; exact hm2) (fun p hp => okP_congr (okν.2.2.2.2 p (by rw [e1, e12] at hp; exact hp)) (e4 p (by rw [e1, e12] at hp; omega))) (w := w) (x := (i : Int) + 1) hw N 0 (by rw [e1, e12]; omega) (by rw [e1, e12]; omega)
        rw [show ((0 : Nat) : Int) = 0 from rfl] at this
        rw [this]
        have ez : fmZ (fun p => shoP (pq (dayR 2 (cp 2 4 ν)) 4 p)) ((dayR 2 (cp 2 4 ν) 1 0).toNat - 0) 0 = z := by
          rw [← hZ, e1, e12, ← X.1]
          refine fmZ_congr _ _ (fun j _ hj => shoP_congr (fun t ht => ?_))
          rw [e4 j (by omega) t ht]
          exact X.2.2.2.2 j (by have := X.1; omega) t ht
        rw [ez]
      by_cases d : z < 0
      · have zn : ∀ p : Nat, (p : Int) < ξ 21 2 → shoP (ξ (21 + 2 + p)) = 0 := by
          have key : ∀ (f : Nat → Int) k p, fmZ f k p < 0 → ∀ j, p ≤ j → j < p + k → f j = 0 := by
            intro f k
            induction k with
            | zero => intro p _ j h1 h2; omega
            | succ k ih =>
              intro p h j h1 h2
              unfold fmZ at h
              by_cases e : f p = 0
              · rw [if_pos e] at h
                by_cases ej : j = p
                · rw [ej]; exact e
                · exact ih (p + 1) h j (by omega) (by omega)
              · rw [if_neg e] at h
                omega
          intro p hp
          exact key (fun p => shoP (ξ (21 + 2 + p))) _ 0 (by rw [hZ]; exact d) p (by omega) (by omega)
        obtain ⟨r, ξ', e, f, g⟩ := ih (i + 1) (dyO 21 ξ) (by omega) (by omega) okD (fun p hp => by rw [m2] at hp; rw [v7 p hp, zn p hp])
        refine ⟨r, ξ', ?_, fun a h1 h2 => (f a h1 h2).trans (frD a h1 h2), fun ν X okν e12 hd => ?_⟩
        · rw [g4, if_pos d]
          exact e
        · have e2 : cp 2 4 ν 2 = ν 2 := cp_row (by decide)
          have ok2 : okR (cp 2 4 ν) 2 := okR_congr okν e2
          have X' : relX 21 2 (dyO 21 ξ) (dayR 2 (cp 2 4 ν)) := relX_day (relX_congr X okν.1.2 rfl (fun _ _ => rfl) (fun j _ => by rw [e2])) ok2
          obtain ⟨ν', e', f'⟩ := g (dayR 2 (cp 2 4 ν)) X' (dayR_ok ok2 (by rw [e2]; omega)) (by rw [show dayR 2 (cp 2 4 ν) 1 0 = ν 1 0 from (dayR_c (by decide)).trans (cp_c (by decide)), show dayR 2 (cp 2 4 ν) 2 0 = cp 2 4 ν 2 0 from dayN_many, e2]; exact e12) (by rw [show dayR 2 (cp 2 4 ν) 2 1 = cp 2 4 ν 2 1 + 1 from dayN_day, e2]; omega)
          refine ⟨ν', ?_, fun a h2 h4 => ?_⟩
          · rw [g5 ν X okν e12, if_pos d]
            exact e'
          · rw [f' a h2 h4, show dayR 2 (cp 2 4 ν) a = cp 2 4 ν a from funext fun b => dayR_c h2, cp_row h4]
      · refine ⟨_, dyO 21 ξ, by rw [g4, if_neg d], frD, fun ν X okν e12 hd => ⟨_, by rw [g5 ν X okν e12, if_neg d], fun a h2 h4 => ?_⟩⟩
        rw [show dayR 2 (cp 2 4 ν) a = cp 2 4 ν a from funext fun b => dayR_c h2, cp_row h4]
theorem op_first (N : Nat) (hN : 200 ≤ N) {μ : mm} (R : Rel μ) {w : Int} (hw : inR w) : Op (M4_first N w) (M5_first N w) μ := by
  obtain ⟨⟨a1, a2, a3⟩, -⟩ := id R
  have hm := a2.1
  by_cases t : othZ w 1 = 0
  · have tt := othZ_0 t
    obtain ⟨X, okm, ok21⟩ := mind_days a1 a2 a3 (μ' := μ) rfl 0 (by omega)
    obtain ⟨r, ξ', e4, f4, g⟩ := first_loop N hN hw N 0 (mindT μ) (by omega) (by omega) ok21 (fun p hp => by
      have e := a1.1
      have e2 : mindT μ 21 2 = μ 10 2 := tkN_sc (by decide)
      exact tkN_z (by omega) (by decide) (by decide))
    have r1 : ξ' 1 = μ 1 := by rw [f4 1 (by decide) (by omega), mindT_c a1 a2 (by decide) (by omega)]
    obtain ⟨X', okm', -⟩ := mind_days a1 a2 a3 r1 0 (by omega)
    have c0 : cp 1 2 ξ' 2 0 = μ 1 0 := by rw [cp_to (by decide), r1]
    have c1 : cp 1 2 ξ' 2 1 = μ 1 1 := by rw [cp_to (by decide), r1]
    obtain ⟨ν', e5, f5⟩ := g (cp 1 2 ξ') X' okm' (by rw [c0, cp_c (by decide), r1]) (by rw [c1]; omega)
    rw [show ((0 : Nat) : Int) + 1 = 1 from rfl] at e4 e5
    refine ⟨r, ξ', ν', ?_, ?_, ?_⟩
    · simp only [M4_first]
      rw [M4_other_eq N hw (by decide), Option.bind_some, t, if_pos (by decide), if_pos rfl, mind_eq N (by omega) a1 a2, Option.bind_some]
      exact e4
    · simp only [M5_first]
      rw [M5_isIn_eq N hw (by decide) (by decide), Option.bind_some, if_pos tt, if_pos (by decide), if_neg (by decide), M5_copies_eq N 1 2 (by omega) (by decide), Option.bind_some]
      exact e5
    · refine Rel_scr R (fun a ha h0 => ?_) (fun i _ _ => ?_)
      · have := scr_ne ha
        rw [f5 a (by omega) (by omega), cp_row (by omega), f4 a (by omega) (by omega), mindT_c a1 a2 (by omega) (by omega)]
      · rw [f5 0 (by decide) (by decide), cp_c (by decide), f4 0 (by decide) (by omega), mindT_c a1 a2 (by decide) (by omega)]
  · obtain ⟨t1, t2⟩ := oth_no t
    refine Op_ref N R (c := -2) (by decide) ?_ (fun ν _ => ?_)
    · simp only [M4_first]
      rw [M4_other_eq N hw (by decide), Option.bind_some, t1, if_pos (by decide), if_neg (by decide), rf4 N (by decide)]
    · simp only [M5_first]
      rw [M5_isIn_eq N hw (by decide) (by decide), Option.bind_some, if_neg t2, if_pos (by decide), if_pos rfl, rf5 N (by decide)]
end
section
/-! least terms; mean -/
theorem zcmp_0 {y : Int} : (zcmp y 0 = 0 ↔ y = 0) ∧ inR (zcmp y 0) := by
  unfold zcmp
  split
  · constructor
    · constructor
      · intro h; omega
      · intro h; omega
    · decide
  · split
    · constructor
      · constructor
        · intro h; omega
        · intro h; omega
      · decide
    · constructor
      · constructor
        · intro h; omega
        · intro h; omega
      · decide
/-- Euclid's two steps halve the second number -/
theorem gcd_both (N : Nat) (x0 x2 x4 : Int) (μ μ' : mm) : ∀ (K k : Nat) (i : Nat) (x y : Int), 0 ≤ x → 0 ≤ y → y < 2 ^ K → inL x → inL y → 2 * K + 2 ≤ k → i + 2 * K ≤ 98 → (0 < x ∨ 0 < y) →
    ∃ d, 0 < d ∧ inL d ∧ L4_leastTerms_25 N k x0 x2 x4 x y (i : Int) μ = J4_leastTerms_60 N x0 x2 x4 d μ ∧ L5_gcd_6 N k x y μ' = some d := by
  intro K
  induction K with
  | zero =>
    intro k i x y hx hy hK lx ly hk hi hp
    obtain ⟨k', rfl⟩ : ∃ k', k = k' + 1 := ⟨k - 1, by omega⟩
    have y0 : y = 0 := by
      have : y < 1 := hK
      omega
    subst y0
    refine ⟨x, by omega, lx, ?_, ?_⟩
    · rw [L4_leastTerms_25, if_pos (show inR (i : Int) from by omega), if_neg (show ¬ 100 ≤ (i : Int) by omega), if_pos ly, if_pos zcmp_0.2, if_pos (zcmp_0.1.mpr rfl)]
    · rw [L5_gcd_6, if_pos ly, if_pos zcmp_0.2, if_pos (zcmp_0.1.mpr rfl)]
  | succ K ih =>
    intro k i x y hx hy hK lx ly hk hi hp
    obtain ⟨k1, rfl⟩ : ∃ k', k = k' + 1 := ⟨k - 1, by omega⟩
    by_cases y0 : y = 0
    · refine ⟨x, by omega, lx, ?_, ?_⟩
      · rw [L4_leastTerms_25, if_pos (show inR (i : Int) from by omega), if_neg (show ¬ 100 ≤ (i : Int) by omega), if_pos ly, if_pos zcmp_0.2, if_pos (zcmp_0.1.mpr y0)]
      · rw [L5_gcd_6, if_pos ly, if_pos zcmp_0.2, if_pos (zcmp_0.1.mpr y0)]
    · have hyp : 0 < y := by omega
      have r0 := Int.emod_nonneg x y0
      have r1 := Int.emod_lt_of_pos x hyp
      have s4 : L4_leastTerms_25 N (k1 + 1) x0 x2 x4 x y (i : Int) μ = L4_leastTerms_25 N k1 x0 x2 x4 y (x % y) ((i : Int) + 1) μ := by
        rw [L4_leastTerms_25, if_pos (show inR (i : Int) from by omega), if_neg (show ¬ 100 ≤ (i : Int) by omega), if_pos ly, if_pos zcmp_0.2, if_neg (fun z => y0 (zcmp_0.1.mp z)), if_pos ⟨hx, hyp, lx, ly⟩]
        rfl
      have s5 : L5_gcd_6 N (k1 + 1) x y μ' = L5_gcd_6 N k1 y (x % y) μ' := by
        rw [L5_gcd_6, if_pos ly, if_pos zcmp_0.2, if_neg (fun z => y0 (zcmp_0.1.mp z)), if_pos ⟨hx, hyp, lx, ly⟩]
        rfl
      rw [s4, s5]
      generalize hr : x % y = r at r0 r1
      obtain ⟨k2, rfl⟩ : ∃ k', k1 = k' + 1 := ⟨k1 - 1, by omega⟩
      by_cases e0 : r = 0
      · refine ⟨y, hyp, ly, ?_, ?_⟩
        · rw [L4_leastTerms_25, if_pos (show inR ((i : Int) + 1) from by omega), if_neg (show ¬ 100 ≤ (i : Int) + 1 by omega), if_pos (show inL r by omega), if_pos zcmp_0.2, if_pos (zcmp_0.1.mpr e0)]
        · rw [L5_gcd_6, if_pos (show inL r by omega), if_pos zcmp_0.2, if_pos (zcmp_0.1.mpr e0)]
      · have hrp : 0 < r := by omega
        have q0 := Int.emod_nonneg y e0
        have q1 := Int.emod_lt_of_pos y hrp
        have qh : 2 * (y % r) < y := by
          have hd := Int.mul_ediv_add_emod y r
          have hq : 1 ≤ y / r := (Int.le_ediv_iff_mul_le hrp).mpr (by omega)
          have hm : r * 1 ≤ r * (y / r) := Int.mul_le_mul_of_nonneg_left hq (by omega)
          omega
        have t4 : L4_leastTerms_25 N (k2 + 1) x0 x2 x4 y r ((i : Int) + 1) μ = L4_leastTerms_25 N k2 x0 x2 x4 r (y % r) (((i + 2 : Nat) : Int)) μ := by
          rw [L4_leastTerms_25, if_pos (show inR ((i : Int) + 1) from by omega), if_neg (show ¬ 100 ≤ (i : Int) + 1 by omega), if_pos (show inL r by omega), if_pos zcmp_0.2, if_neg (fun z => e0 (zcmp_0.1.mp z)), if_pos (show 0 ≤ y ∧ 0 < r ∧ inL y ∧ inL r by omega)]
          rfl
        have t5 : L5_gcd_6 N (k2 + 1) y r μ' = L5_gcd_6 N k2 r (y % r) μ' := by
          rw [L5_gcd_6, if_pos (show inL r by omega), if_pos zcmp_0.2, if_neg (fun z => e0 (zcmp_0.1.mp z)), if_pos (show 0 ≤ y ∧ 0 < r ∧ inL y ∧ inL r by omega)]
          rfl
        rw [t4, t5]
        have hK2 : (2 : Int) ^ (K + 1) = 2 ^ K * 2 := Int.pow_succ 2 K
        exact ih k2 (i + 2) r (y % r) (by omega) q0 (by omega) (by omega) (by omega) (by omega) (by omega) (Or.inl hrp)
/-- the least terms on both sides, of numbers below 2^40 -/
theorem terms_eq (N : Nat) (hN : 200 ≤ N) {a b w : Int} (ha : 0 ≤ a ∧ a < 1099511627776) (hb : 0 < b ∧ b < 1099511627776 ∨ a = 0) (hlb : inL b) (hw : 0 ≤ w ∧ w ≤ 1) (μ μ' : mm) : ∃ r, M4_leastTerms N a b w μ = some r ∧ M5_partOf N a b w μ' = some r := by
  have la : inL a := by omega
  have gw : inR w := by omega
  unfold M4_leastTerms M5_partOf
  rw [if_pos la, if_pos zcmp_0.2, if_pos la, if_pos zcmp_0.2]
  by_cases a0 : a = 0
  · rw [if_pos (zcmp_0.1.mpr a0), if_pos (zcmp_0.1.mpr a0), if_pos gw, if_pos zcmp_0.2]
    exact ⟨w, rfl, rfl⟩
  · have hb' : 0 < b ∧ b < 1099511627776 := by omega
    rw [if_neg (fun z => a0 (zcmp_0.1.mp z)), if_neg (fun z => a0 (zcmp_0.1.mp z)), if_pos hlb, if_pos zcmp_0.2, if_neg (fun z => (show ¬ b = 0 by omega) (zcmp_0.1.mp z)), if_pos gw]
    obtain ⟨d, hd, ld, e4, e5⟩ := gcd_both N a b w μ μ' 40 N 0 a b ha.1 (by omega) (by have : (2 : Int) ^ 40 = 1099511627776 := by decide
                                                                                       omega) la hlb (by omega) (by decide) (Or.inl (by omega))
    rw [show ((0 : Nat) : Int) = 0 from rfl] at e4
    rw [e4]
    simp only [J4_leastTerms_60, J5_partOf_20, M5_gcd]
    rw [e5, if_pos ld, if_pos zcmp_0.2, if_neg (fun z => (show ¬ d = 0 by omega) (zcmp_0.1.mp z)), if_pos gw, Option.bind_some, if_pos (show 0 ≤ a ∧ 0 < d ∧ inL a ∧ inL d by omega), if_pos (show 0 ≤ b ∧ 0 < d ∧ inL b ∧ inL d by omega)]
    by_cases w0 : w = 0
    · rw [if_pos w0, if_pos w0]
      exact ⟨_, rfl, rfl⟩
    · rw [if_neg w0, if_neg w0]
      refine ⟨_, rfl, ?_⟩
      rw [Option.bind_some, if_pos (show 0 ≤ b ∧ 0 < d ∧ inL b ∧ inL d by omega)]
theorem sumN_in {f : Nat → Int} {B : Int} : ∀ n : Nat, (∀ i, i < n → 0 ≤ f i ∧ f i ≤ B) → 0 ≤ sumN f n ∧ sumN f n ≤ (n : Int) * B := by
  intro n
  induction n with
  | zero => intro _; exact ⟨Int.le_refl _, by show (0 : Int) ≤ ((0 : Nat) : Int) * B; rw [show ((0 : Nat) : Int) = 0 from rfl, Int.zero_mul]; exact Int.le_refl _⟩
  | succ n ih =>
    intro h
    have a := ih (fun i hi => h i (by omega))
    have b := h n (by omega)
    have e : ((n + 1 : Nat) : Int) * B = (n : Int) * B + B := by
      rw [show ((n + 1 : Nat) : Int) = (n : Int) + 1 from rfl, Int.add_mul, Int.one_mul]
    show 0 ≤ sumN f n + f n ∧ sumN f n + f n ≤ ((n + 1 : Nat) : Int) * B
    omega
theorem rfw4 (N : Nat) {c : Int} (hc : -6 ≤ c ∧ c ≤ 0) (ν : mm) : ((M4_refused N c ν).bind fun (q7 : (Int × mm)) => if inR q7.1 then (some ((4000000000000000000 - q7.1), q7.2)) else none) = some (4000000000000000000 - c, r4 c ν) := by
  rw [M4_refused_eq N hc, Option.bind_some]
  dsimp only
  rw [if_pos (show inR c from by omega)]
theorem noWide_eq (N : Nat) {c : Int} (hc : -6 ≤ c ∧ c ≤ 0) (ν : mm) : ((M5_noWide N c ν).bind fun (q3 : (Int × mm)) => some (q3.1, q3.2)) = some (4000000000000000000 - c, r5 c ν) := by
  unfold M5_noWide
  rw [M5_no_eq N hc, Option.bind_some]
  dsimp only
  rw [if_pos (show inR c from by omega)]
  rfl
theorem Op_wide (N : Nat) {μ : mm} (R : Rel μ) {c : Int} (hc : -6 ≤ c ∧ c ≤ -1) {f g : mm → Option (Int × mm)} (hf : f μ = some (4000000000000000000 - c, r4 c μ)) (hg : ∀ ν, ν = r4 c μ → g ν = some (4000000000000000000 - c, r5 c ν)) : Op f g μ :=
  ⟨4000000000000000000 - c, r4 c μ, r5 c (r4 c μ), hf, hg _ rfl, Rel_ref R hc⟩
theorem op_mean (N : Nat) (hN : 200 ≤ N) {μ : mm} (R : Rel μ) {w : Int} (hw : inR w) : Op (M4_mean N w) (M5_mean N w) μ := by
  obtain ⟨⟨a1, a2, a3⟩, -⟩ := id R
  have hm := a2.1
  by_cases t : othZ w 1 = 0
  · have tt := othZ_0 t
    have hs : 0 ≤ sumN (fun p => μ 1 (4 + 6 * p + 2)) (μ 1 0).toNat ∧ sumN (fun p => μ 1 (4 + 6 * p + 2)) (μ 1 0).toNat ≤ ((μ 1 0).toNat : Int) * 99 := sumN_in _ (fun i hi => (a2.2.2.2.2 i (by omega)).2.2.1)
    have e2 := M5_allOf_eq N 1 2 (by decide) (by omega) (μ := μ) hm
    rw [show ((2 : Nat) : Int) = 2 from rfl] at e2
    have e4 := M1_allHas_eq N (o := 10) (Or.inl rfl) (by omega) (μ := μ) (by rw [a1.1]; exact hm)
    rw [sum_one a1 2 (by decide)] at e4
    generalize sumN (fun p => μ 1 (4 + 6 * p + 2)) (μ 1 0).toNat = s at hs e2 e4
    obtain ⟨r, f4, f5⟩ := terms_eq N hN (a := s) (b := μ 1 0) (w := w) (by omega) (by omega) (by omega) tt μ μ
    refine ⟨r, μ, μ, ?_, ?_, R⟩
    · simp only [M4_mean]
      rw [M4_other_eq N hw (by decide), Option.bind_some, t, if_pos (by decide), if_pos rfl, e4, Option.bind_some, if_pos (show inR s from by omega), a1.1, if_pos (show inR (μ 1 0) from by omega), f4, Option.bind_some]
    · simp only [M5_mean]
      rw [M5_isIn_eq N hw (by decide) (by decide), Option.bind_some, if_pos tt, if_pos (by decide), if_neg (by decide), e2, Option.bind_some, if_pos (show inR s from by omega), if_pos (show inR (μ 1 0) from by omega), f5, Option.bind_some]
  · obtain ⟨t1, t2⟩ := oth_no t
    refine Op_wide N R (c := -2) (by decide) ?_ (fun ν _ => ?_)
    · simp only [M4_mean]
      rw [M4_other_eq N hw (by decide), Option.bind_some, t1, if_pos (by decide), if_neg (by decide), rfw4 N (by decide)]
    · simp only [M5_mean]
      rw [M5_isIn_eq N hw (by decide) (by decide), Option.bind_some, if_neg t2, if_pos (by decide), if_pos rfl, noWide_eq N (by decide)]
end
section
/-! each whose matter comes has what he lacks: issueAhead -/
def relD (o r : Nat) (d : Int) (μ ν : mm) : Prop := μ o 2 = ν r 0 ∧ μ o 3 = ν r 2 + d ∧ μ o 4 = ν r 3 ∧ μ o 5 = ν r 1 ∧ ∀ p : Nat, (p : Int) < ν r 0 → at6 ν r p (μ (o + 2 + p))
def okS (μ : mm) (o : Nat) : Prop := okO μ o ∧ 0 ≤ μ o 3 ∧ μ o 3 ≤ 999
def isC (ξ : mm) (o p : Nat) (l : Int) : mm := mu (mu ξ (o + 2 + p) 2 (ξ (o + 2 + p) 2 + l)) o 3 (ξ o 3 - l)
def isR (ν : mm) (r p : Nat) (l : Int) : mm := mu (mu ν r 2 (ν r 2 - l)) r (4 + 6 * p + 2) (ν r (4 + 6 * p + 2) + l)
theorem lackZ_has {q : Nat → Int} (h : okP q) : q 2 + lackZ q ≤ 99 := by
  have hn := needsZ_in (k := q 0) h.2.1
  have := h.2.2.1
  unfold lackZ
  split <;> omega
theorem M1_issue_eq (N : Nat) {o : Nat} (ho : isO o) {ξ : mm} (ok : okS ξ o) (p : Nat) (hp : (p : Int) < ξ o 2) {l : Int} (hl : 0 ≤ l ∧ l ≤ 99) (hh : ξ (o + 2 + p) 2 + l ≤ 99) : M1_issue N o (p : Int) l ξ = if ξ o 3 < l then some (0, ξ) else some (1, isC ξ o p l) := by
  have hm := ok.1.1
  have hs := ok.2
  have hp8 : p < 8 := by omega
  have hq := (ok.1.2.2 p hp).2.2.1
  simp only [M1_issue, bnd]
  rw [M1_knows_eq N o (show inR (p : Int) by omega) hm, if_pos (show 0 ≤ (p : Int) ∧ (p : Int) < ξ o 2 by omega), Option.bind_some, if_pos (by decide), if_neg (by decide), if_pos (show inR l ∧ inR (ξ o 3) by omega)]
  by_cases c : ξ o 3 < l
  · rw [if_pos c, if_pos c]
  · rw [if_neg c, if_neg c, M1_at_eq N o p hp8, Option.bind_some, if_pos (kdO ho hp8), if_pos (show inR (ξ (o + 2 + p) 2 + l) by omega), if_pos hh, Option.bind_some, if_pos (kdO ho hp8), mu_c (show o ≠ o + 2 + p by omega)]
    rfl
theorem isC_row {ξ : mm} {o p a : Nat} {l : Int} (h : a ≠ o) (h2 : a ≠ o + 2 + p) : isC ξ o p l a = ξ a := by
  unfold isC
  rw [mu_row h, mu_row h2]
theorem isC_p {ξ : mm} {o p : Nat} {l : Int} : isC ξ o p l (o + 2 + p) = fu (ξ (o + 2 + p)) 2 (ξ (o + 2 + p) 2 + l) := by
  funext y
  unfold isC fu
  rw [mu_c (by omega)]
  by_cases c : y = 2
  · subst c
    rw [mu_s, if_pos rfl]
  · rw [mu_j c, if_neg c]
theorem isC_o {ξ : mm} {o p y : Nat} {l : Int} (h : y ≠ 3) : isC ξ o p l o y = ξ o y := by
  unfold isC
  rw [mu_j h, mu_c (by omega)]
theorem isC_3 {ξ : mm} {o p : Nat} {l : Int} : isC ξ o p l o 3 = ξ o 3 - l := mu_s
theorem okP_has {q : Nat → Int} (h : okP q) {v : Int} (hv : 0 ≤ v ∧ v ≤ 99) : okP (fu q 2 v) := ⟨h.1, h.2.1, hv, h.2.2.2.1, h.2.2.2.2.1, h.2.2.2.2.2⟩
theorem okS_isC {ξ : mm} {o p : Nat} {l : Int} (ok : okS ξ o) (hp : (p : Int) < ξ o 2) (hl : 0 ≤ l ∧ l ≤ ξ o 3) (hh : ξ (o + 2 + p) 2 + l ≤ 99) : okS (isC ξ o p l) o := by
  obtain ⟨⟨o1, o2, o3⟩, s1, s2⟩ := ok
  have hq := o3 p hp
  have hq2 := hq.2.2.1
  refine ⟨⟨by rw [isC_o (by decide)]; exact o1, by rw [isC_o (by decide)]; exact o2, fun p' hp' => ?_⟩, by rw [isC_3]; omega, by rw [isC_3]; omega⟩
  rw [isC_o (by decide)] at hp'
  by_cases c : p' = p
  · subst c
    rw [isC_p]
    exact okP_has hq (by omega)
  · rw [isC_row (by omega) (by omega)]
    exact o3 p' hp'
theorem isR_at {ν : mm} {r p p' : Nat} {l : Int} {q : Nat → Int} (h6 : at6 ν r p' q) : at6 (isR ν r p l) r p' (if p' = p then fu q 2 (q 2 + l) else q) := by
  intro k hk
  unfold isR
  by_cases c : p' = p
  · subst c
    rw [if_pos rfl]
    unfold fu
    by_cases k2 : k = 2
    · subst k2
      rw [mu_s, if_pos rfl, h6 2 (by decide)]
    · rw [mu_j (by omega), mu_j (by omega), if_neg k2]
      exact h6 k hk
  · rw [if_neg c, mu_j (by omega), mu_j (by omega)]
    exact h6 k hk
theorem isR_sc {ν : mm} {r p j : Nat} {l : Int} (hj : j < 4) (h : j ≠ 2) : isR ν r p l r j = ν r j := by
  unfold isR
  rw [mu_j (by omega), mu_j h]
theorem isR_2 {ν : mm} {r p : Nat} {l : Int} : isR ν r p l r 2 = ν r 2 - l := by
  unfold isR
  rw [mu_j (by omega), mu_s]
theorem isR_row {ν : mm} {r p a : Nat} {l : Int} (h : a ≠ r) : isR ν r p l a = ν a := by
  unfold isR
  rw [mu_row h, mu_row h]
theorem okR_isR {ν : mm} {r p : Nat} {l : Int} (ok : okR ν r) (hp : (p : Int) < ν r 0) (hl : 0 ≤ l ∧ l ≤ ν r 2) (hh : ν r (4 + 6 * p + 2) + l ≤ 99) : okR (isR ν r p l) r := by
  obtain ⟨o1, o2, o3, o4, o5⟩ := ok
  refine ⟨by rw [isR_sc (by decide) (by decide)]; exact o1, by rw [isR_sc (by decide) (by decide)]; exact o2, by rw [isR_2]; omega, by rw [isR_sc (by decide) (by decide)]; exact o4, fun p' hp' => ?_⟩
  rw [isR_sc (by decide) (by decide)] at hp'
  have hq := o5 p' hp'
  have a := isR_at (p := p) (l := l) (pq_at ν r p')
  refine okP_congr ?_ (fun k hk => a k hk)
  by_cases c : p' = p
  · subst c
    rw [if_pos rfl]
    have hq2 := hq.2.2.1
    exact okP_has hq (by show 0 ≤ ν r (4 + 6 * p' + 2) + l ∧ ν r (4 + 6 * p' + 2) + l ≤ 99; have : 0 ≤ ν r (4 + 6 * p' + 2) := hq2.1; omega)
  · rw [if_neg c]
    exact hq
theorem relD_is {o r p : Nat} {d l : Int} {ξ ν : mm} (h : relD o r d ξ ν) : relD o r d (isC ξ o p l) (isR ν r p l) := by
  obtain ⟨h1, h2, h3, h4, h5⟩ := h
  refine ⟨by rw [isC_o (by decide), isR_sc (by decide) (by decide)]; exact h1, by rw [isC_3, isR_2]; omega, by rw [isC_o (by decide), isR_sc (by decide) (by decide)]; exact h3, by rw [isC_o (by decide), isR_sc (by decide) (by decide)]; exact h4, fun p' hp' => ?_⟩
  rw [isR_sc (by decide) (by decide)] at hp'
  have a := isR_at (p := p) (l := l) (h5 p' hp')
  by_cases c : p' = p
  · subst c
    rw [if_pos rfl] at a
    rw [isC_p]
    exact a
  · rw [if_neg c] at a
    rw [isC_row (by omega) (by omega)]
    exact a
theorem ahead_loop (N : Nat) : ∀ (k p : Nat) (ξ : mm), (p : Int) ≤ ξ 21 2 → ξ 21 2 < (p : Int) + k → okS ξ 21 →
    ∃ (r : Int) (ξ' : mm), L1_issueAhead_2 N k 21 (p : Int) ξ = some (r, ξ') ∧ (r = -9 ∨ (0 ≤ r ∧ r < 8)) ∧ okS ξ' 21 ∧ ξ' 21 2 = ξ 21 2 ∧ ξ' 21 3 ≤ ξ 21 3 ∧ (∀ a, a ≠ 21 → (a < 23 ∨ 31 ≤ a) → ξ' a = ξ a) ∧
      ∀ (d : Int) (ν : mm), 0 ≤ d → relD 21 2 d ξ ν → okR ν 2 → ∃ (r' : Int) (ν' : mm), L5_refusesOne_2 N k (p : Int) ν = some (r', ν') ∧ (r' = -9 ∨ (0 ≤ r' ∧ r' < 8)) ∧ (∀ a, a ≠ 2 → ν' a = ν a) ∧ (r < 0 → d ≤ ξ' 21 3 → r' = -9 ∧ relD 21 2 d ξ' ν' ∧ okR ν' 2 ∧ ν' 2 1 = ν 2 1) ∧ (r < 0 → ξ' 21 3 < d → 0 ≤ r') ∧ (0 ≤ r → 0 ≤ r' ∧ (d = 0 → r' = r)) := by
  intro k
  induction k with
  | zero => intro p ξ h1 h2; omega
  | succ k ih =>
    intro p ξ h1 h2 ok
    have hm := ok.1.1
    by_cases c : ξ 21 2 ≤ (p : Int)
    · refine ⟨-9, ξ, ?_, Or.inl rfl, ok, rfl, Int.le_refl _, fun _ _ _ => rfl, fun d ν hd X okν => ⟨-9, ν, ?_, Or.inl rfl, fun _ _ => rfl, fun _ _ => ⟨rfl, X, okν, rfl⟩, fun _ h => ?_, fun h => by omega⟩⟩
      · rw [L1_issueAhead_2, if_pos (show inR (p : Int) ∧ inR (ξ 21 2) by omega), if_pos c]
      · have e := X.1
        rw [L5_refusesOne_2, if_pos (show inR (p : Int) ∧ inR (ν 2 0) by omega), if_pos (show ν 2 0 ≤ (p : Int) by omega)]
      · have e := X.2.1
        have := okν.2.2.1
        omega
    · have hp8 : p < 8 := by omega
      have hq := ok.1.2.2 p (by omega)
      have hl := lackZ_in hq
      have hh := lackZ_has hq
      have hq3 := hq.2.2.2.1
      have g4 : L1_issueAhead_2 N (k + 1) 21 (p : Int) ξ = if ξ (21 + 2 + p) 3 = 1 then (if ξ 21 3 < lackZ (ξ (21 + 2 + p)) then some ((p : Int), ξ) else L1_issueAhead_2 N k 21 ((p : Int) + 1) (isC ξ 21 p (lackZ (ξ (21 + 2 + p))))) else L1_issueAhead_2 N k 21 ((p : Int) + 1) ξ := by
        rw [L1_issueAhead_2, if_pos (show inR (p : Int) ∧ inR (ξ 21 2) by omega), if_neg c, M1_at_eq N 21 p hp8, Option.bind_some, if_pos (kdO (Or.inr (Or.inl rfl)) hp8), if_pos (show inR (ξ (21 + 2 + p) 3) by omega), M2_lacking_eq N _ hq, Option.bind_some, M1_issue_eq N (Or.inr (Or.inl rfl)) ok p (by omega) (by omega) hh]
        simp only [J1_issueAhead_38]
        by_cases f : ξ (21 + 2 + p) 3 = 1
        · rw [if_pos f, if_pos f]
          by_cases g : ξ 21 3 < lackZ (ξ (21 + 2 + p))
          · rw [if_pos g, if_pos g, Option.bind_some]
            rfl
          · rw [if_neg g, if_neg g, Option.bind_some]
            rfl
        · rw [if_neg f, if_neg f]
      have g5 : ∀ (d : Int) (ν : mm), relD 21 2 d ξ ν → okR ν 2 → L5_refusesOne_2 N (k + 1) (p : Int) ν = if ξ (21 + 2 + p) 3 = 1 then (if lackZ (ξ (21 + 2 + p)) ≤ ν 2 2 then L5_refusesOne_2 N k ((p : Int) + 1) (isR ν 2 p (lackZ (ξ (21 + 2 + p)))) else some ((p : Int), ν)) else L5_refusesOne_2 N k ((p : Int) + 1) ν := by
        intro d ν X okν
        have e := X.1
        have h6 := X.2.2.2.2 p (by omega)
        have h2 := okν.2.2.1
        have eL := M5_lacksIn_eq N 2 p ν hp8 h6 hq
        rw [L5_refusesOne_2, if_pos (show inR (p : Int) ∧ inR (ν 2 0) by omega), if_neg (show ¬ ν 2 0 ≤ (p : Int) by omega), if_pos (ixg hp8 (by decide)), ix3, h6 3 (by decide), if_pos (show inR (ξ (21 + 2 + p) 3) by omega), eL, Option.bind_some, show (if ξ (21 + 2 + p) 3 = 0 then (0 : Int) else max 0 (needsZ (ξ (21 + 2 + p) 0) (ξ (21 + 2 + p) 1) - ξ (21 + 2 + p) 2)) = lackZ (ξ (21 + 2 + p)) from rfl, if_pos (show inR (lackZ (ξ (21 + 2 + p))) ∧ inR (ν 2 2) by omega), M5_issuesIn_eq N 2 p hp8, Option.bind_some]
        rfl
      by_cases f : ξ (21 + 2 + p) 3 = 1
      · by_cases g : ξ 21 3 < lackZ (ξ (21 + 2 + p))
        · refine ⟨(p : Int), ξ, by rw [g4, if_pos f, if_pos g], Or.inr (by omega), ok, rfl, Int.le_refl _, fun _ _ _ => rfl, fun d ν hd X okν => ⟨(p : Int), ν, ?_, Or.inr (by omega), fun _ _ => rfl, fun h => by omega, fun h => by omega, fun _ => ⟨by omega, fun _ => rfl⟩⟩⟩
          have e := X.2.1
          rw [g5 d ν X okν, if_pos f, if_neg (by omega)]
        · have okI := okS_isC (p := p) ok (by omega) (show 0 ≤ lackZ (ξ (21 + 2 + p)) ∧ lackZ (ξ (21 + 2 + p)) ≤ ξ 21 3 by omega) hh
          obtain ⟨r, ξ', e, hr, ok', m', s', fr, G⟩ := ih (p + 1) (isC ξ 21 p (lackZ (ξ (21 + 2 + p)))) (by rw [isC_o (by decide)]; omega) (by rw [isC_o (by decide)]; omega) okI
          rw [isC_3] at s'
          refine ⟨r, ξ', by rw [g4, if_pos f, if_neg g]; exact e, hr, ok', by rw [m', isC_o (by decide)], by omega, fun a h1 h2 => (fr a h1 h2).trans (isC_row h1 (by omega)), fun d ν hd X okν => ?_⟩
          have e2 := X.2.1
          have h6 := X.2.2.2.2 p (by have := X.1; omega)
          by_cases t : lackZ (ξ (21 + 2 + p)) ≤ ν 2 2
          · obtain ⟨r', ν', e', hr', fr', A, B, C⟩ := G d (isR ν 2 p (lackZ (ξ (21 + 2 + p)))) hd (relD_is X) (okR_isR okν (by have := X.1; omega) (by omega) (by rw [h6 2 (by decide)]; exact hh))
            refine ⟨r', ν', by rw [g5 d ν X okν, if_pos f, if_pos t]; exact e', hr', fun a h => (fr' a h).trans (isR_row h), fun h1 h2 => ?_, B, C⟩
            obtain ⟨x1, x2, x3, x4⟩ := A h1 h2
            exact ⟨x1, x2, x3, by rw [x4, isR_sc (by decide) (by decide)]⟩
          · refine ⟨(p : Int), ν, by rw [g5 d ν X okν, if_pos f, if_neg t], Or.inr (by omega), fun _ _ => rfl, fun h1 h2 => by omega, fun _ _ => by omega, fun h => ⟨by omega, fun h0 => by omega⟩⟩
      · obtain ⟨r, ξ', e, hr, ok', m', s', fr, G⟩ := ih (p + 1) ξ (by omega) (by omega) ok
        refine ⟨r, ξ', by rw [g4, if_neg f]; exact e, hr, ok', m', s', fr, fun d ν hd X okν => ?_⟩
        obtain ⟨r', ν', e', rest⟩ := G d ν hd X okν
        exact ⟨r', ν', by rw [g5 d ν X okν, if_neg f]; exact e', rest⟩
end
section
/-! run, stock -/
theorem relD_day {o r : Nat} {d : Int} {μ ν : mm} (h : relD o r d μ ν) (ok : okR ν r) : relD o r d (dyO o μ) (dayR r ν) := by
  have hm := ok.1
  obtain ⟨h1, h2, h3, h4, h5⟩ := id h
  have hw : ∀ i : Nat, (i : Int) ≤ ν r 0 → wornO o μ i = wornU ν r i := by
    intro i
    induction i with
    | zero => intro _; exact h3
    | succ i ih =>
      intro hi
      show min 9999 (wornO o μ i + dgone (μ (o + 2 + i))) = min 9999 (wornU ν r i + dgone (pq ν r i))
      rw [ih (by omega), dgone_congr (q := pq ν r i) (q' := μ (o + 2 + i)) (fun k hk => h5 i (by omega) k hk)]
  unfold dyO dayR
  refine ⟨by rw [dyN_sc (by decide) (by decide), dayN_many]; exact h1, by rw [dyN_sc (by decide) (by decide), dayN_store]; exact h2, by rw [dyN_4, dayN_worn, h1]; exact hw _ (by omega), by rw [dyN_5, dayN_day, h4], fun p hp => ?_⟩
  rw [dayN_many] at hp
  have a := dayR_at (r := r) (μ := ν) hp (h5 p hp)
  unfold dayR at a
  intro k hk
  rw [a k hk, dyN_p (by omega), dayC_p hk]
theorem okS_day {o : Nat} {ξ : mm} (h : okS ξ o) : okS (dyO o ξ) o := by
  refine ⟨dyO_ok h.1, ?_⟩
  rw [show dyO o ξ o 3 = ξ o 3 from dyN_sc (by decide) (by decide)]
  exact h.2
theorem oneDay_eq (N : Nat) (hN : 200 ≤ N) {ξ : mm} (ok : okO ξ 21) : M1_daysGoBy N 21 1 ξ = some (dyO 21 ξ) := by
  have eD := M1_daysGoBy_eq N (o := 21) (Or.inr (Or.inl rfl)) (by omega) ok 1 (by decide) (by omega)
  rw [show ((1 : Nat) : Int) = 1 from rfl, show dysO 21 1 ξ = dyO 21 ξ from rfl] at eD
  exact eD
theorem dyO_c {ξ : mm} (ok : okO ξ 21) {a : Nat} (h1 : a ≠ 21) (h2 : a < 23 ∨ 31 ≤ a) : dyO 21 ξ a = ξ a := by
  have := ok.1
  exact dyN_c h1 (by omega)
theorem dayR_row {r a : Nat} {ν : mm} (h : a ≠ r) : dayR r ν a = ν a := funext fun _ => dayR_c h
theorem run_loop (N : Nat) (hN : 200 ≤ N) {w : Int} (hw : inR w) : ∀ (k i : Nat) (ξ : mm), i ≤ 61 → 61 < i + k → okS ξ 21 →
    ∃ (r : Int) (ξ' : mm), L4_run_29 N k w (i : Int) ξ = some (r, ξ') ∧ (∀ a, a ≠ 21 → (a < 23 ∨ 31 ≤ a) → ξ' a = ξ a) ∧
      ∀ ν : mm, relD 21 2 0 ξ ν → okR ν 2 → ν 2 1 ≤ 2000 + (i : Int) → ∃ ν', L5_run_29 N k w (i : Int) ν = some (r, ν') ∧ ∀ a, a ≠ 2 → ν' a = ν a := by
  intro k
  induction k with
  | zero => intro i ξ h1 h2; omega
  | succ k ih =>
    intro i ξ h1 h2 ok
    by_cases c : 60 < (i : Int)
    · refine ⟨-9, ξ, ?_, fun _ _ _ => rfl, fun ν _ _ _ => ⟨ν, ?_, fun _ _ => rfl⟩⟩
      · rw [L4_run_29, if_pos (show inR (i : Int) by omega), if_pos c]
      · rw [L5_run_29, if_pos (show inR (i : Int) by omega), if_pos c]
    · have hm := ok.1.1
      obtain ⟨r, ξ1, e, hr, ok1, m1, s1, fr, G⟩ := ahead_loop N N 0 ξ (by omega) (by omega) ok
      rw [show ((0 : Nat) : Int) = 0 from rfl] at e G
      have g4 : L4_run_29 N (k + 1) w (i : Int) ξ = if r < 0 then L4_run_29 N k w ((i : Int) + 1) (dyO 21 ξ1) else some (if w = 0 then (i : Int) else r, ξ1) := by
        rw [L4_run_29, if_pos (show inR (i : Int) by omega), if_neg c]
        unfold M1_issueAhead
        rw [e, Option.bind_some]
        dsimp only
        rw [if_pos (show inR r by omega), oneDay_eq N hN ok1.1, Option.bind_some, if_pos hw]
        split
        · rfl
        · split <;> rfl
      have g5 : ∀ (ν ν1 : mm) (r' : Int), L5_refusesOne_2 N N 0 ν = some (r', ν1) → inR r' → okR ν1 2 → L5_run_29 N (k + 1) w (i : Int) ν = if r' < 0 then L5_run_29 N k w ((i : Int) + 1) (dayR 2 ν1) else some (if w = 0 then (i : Int) else r', ν1) := by
        intro ν ν1 r' e' hr' okν
        rw [L5_run_29, if_pos (show inR (i : Int) by omega), if_neg c]
        unfold M5_refusesOne
        rw [e', Option.bind_some]
        dsimp only
        rw [if_pos hr', M5_day_eq N 2 (by omega) okν, Option.bind_some, if_pos hw]
        split
        · rfl
        · split <;> rfl
      have g5' : ∀ (ν ν1 : mm) (r' : Int), L5_refusesOne_2 N N 0 ν = some (r', ν1) → inR r' → 0 ≤ r' → L5_run_29 N (k + 1) w (i : Int) ν = some (if w = 0 then (i : Int) else r', ν1) := by
        intro ν ν1 r' e' hr' h0
        rw [L5_run_29, if_pos (show inR (i : Int) by omega), if_neg c]
        unfold M5_refusesOne
        rw [e', Option.bind_some]
        dsimp only
        rw [if_pos hr', if_neg (show ¬ r' < 0 by omega), if_pos hw]
        split <;> rfl
      by_cases d : r < 0
      · obtain ⟨r2, ξ2, e2, f2, G2⟩ := ih (i + 1) (dyO 21 ξ1) (by omega) (by omega) (okS_day ok1)
        refine ⟨r2, ξ2, by rw [g4, if_pos d]; exact e2, fun a h1 h2 => by rw [f2 a h1 h2, dyO_c ok1.1 h1 h2, fr a h1 h2], fun ν X okν hd => ?_⟩
        obtain ⟨r', ν1, e', hr', fr', A, B, C⟩ := G 0 ν (by omega) X okν
        obtain ⟨x1, x2, x3, x4⟩ := A d ok1.2.1
        obtain ⟨ν', e3, f3⟩ := G2 (dayR 2 ν1) (relD_day x2 x3) (dayR_ok x3 (by omega)) (by rw [show dayR 2 ν1 2 1 = ν1 2 1 + 1 from dayN_day, x4]; omega)
        refine ⟨ν', ?_, fun a h => by rw [f3 a h, dayR_row h, fr' a h]⟩
        rw [g5 ν ν1 r' e' (by omega) x3, if_pos (by omega)]
        exact e3
      · refine ⟨_, ξ1, by rw [g4, if_neg d], fr, fun ν X okν hd => ?_⟩
        obtain ⟨r', ν1, e', hr', fr', A, B, C⟩ := G 0 ν (by omega) X okν
        obtain ⟨x1, x2⟩ := C (by omega)
        have x3 := x2 rfl
        subst x3
        exact ⟨ν1, g5' ν ν1 r' e' (by omega) x1, fr'⟩
theorem okS_of {ξ ν : mm} {r : Nat} {d : Int} (h : relD 21 r d ξ ν) (ok : okR ν r) (hs : 0 ≤ ξ 21 3 ∧ ξ 21 3 ≤ 999) : okS ξ 21 := by
  obtain ⟨h1, h2, h3, h4, h5⟩ := h
  obtain ⟨o1, o2, o3, o4, o5⟩ := ok
  refine ⟨⟨by rw [h1]; exact o1, by rw [h3]; exact o4, fun p hp => ?_⟩, hs⟩
  rw [h1] at hp
  exact okP_congr (o5 p hp) (fun k hk => (h5 p hp k hk).symm)
theorem relD_0 {o r : Nat} {ξ ν : mm} (h : relX o r ξ ν) : relD o r 0 ξ ν := ⟨h.1, by rw [h.2.1]; omega, h.2.2⟩
theorem op_run (N : Nat) (hN : 200 ≤ N) {μ : mm} (R : Rel μ) {w : Int} (hw : inR w) : Op (M4_run N w) (M5_run N w) μ := by
  obtain ⟨⟨a1, a2, a3⟩, -⟩ := id R
  have hm := a2.1
  by_cases t : othZ w 1 = 0
  · have tt := othZ_0 t
    obtain ⟨X, okm, ok21⟩ := mind_days a1 a2 a3 (μ' := μ) rfl 0 (by omega)
    have oks : okS (mindT μ) 21 := ⟨ok21, by rw [show mindT μ 21 3 = μ 1 2 from (mindT_X a1 a2).2.1]; exact a2.2.2.1⟩
    obtain ⟨r, ξ', e4, f4, g⟩ := run_loop N hN hw N 0 (mindT μ) (by omega) (by omega) oks
    have r1 : ξ' 1 = μ 1 := by rw [f4 1 (by decide) (by omega), mindT_c a1 a2 (by decide) (by omega)]
    obtain ⟨X', okm', -⟩ := mind_days a1 a2 a3 r1 0 (by omega)
    have c1 : cp 1 2 ξ' 2 1 = μ 1 1 := by rw [cp_to (by decide), r1]
    obtain ⟨ν', e5, f5⟩ := g (cp 1 2 ξ') (relD_0 X') okm' (by rw [c1]; omega)
    rw [show ((0 : Nat) : Int) = 0 from rfl] at e4 e5
    refine ⟨r, ξ', ν', ?_, ?_, ?_⟩
    · simp only [M4_run]
      rw [M4_other_eq N hw (by decide), Option.bind_some, t, if_pos (by decide), if_pos rfl, mind_eq N (by omega) a1 a2, Option.bind_some]
      exact e4
    · simp only [M5_run]
      rw [M5_isIn_eq N hw (by decide) (by decide), Option.bind_some, if_pos tt, if_pos (by decide), if_neg (by decide), M5_copies_eq N 1 2 (by omega) (by decide), Option.bind_some]
      exact e5
    · refine Rel_scr R (fun a ha h0 => ?_) (fun i _ _ => ?_)
      · have := scr_ne ha
        rw [f5 a (by omega), cp_row (by omega), f4 a (by omega) (by omega), mindT_c a1 a2 (by omega) (by omega)]
      · rw [f5 0 (by decide), cp_c (by decide), f4 0 (by decide) (by omega), mindT_c a1 a2 (by decide) (by omega)]
  · obtain ⟨t1, t2⟩ := oth_no t
    refine Op_ref N R (c := -2) (by decide) ?_ (fun ν _ => ?_)
    · simp only [M4_run]
      rw [M4_other_eq N hw (by decide), Option.bind_some, t1, if_pos (by decide), if_neg (by decide), rf4 N (by decide)]
    · simp only [M5_run]
      rw [M5_isIn_eq N hw (by decide) (by decide), Option.bind_some, if_neg t2, if_pos (by decide), if_pos rfl, rf5 N (by decide)]
theorem stock_loop (N : Nat) (hN : 200 ≤ N) (n : Nat) (hn : n ≤ 30) : ∀ (k i : Nat) (ξ : mm), i ≤ n → n < i + k → okS ξ 21 →
    ∃ (r : Int) (ξ' : mm), L4_stock_41 N k (n : Int) (i : Int) ξ = some (r, ξ') ∧ (∀ a, a ≠ 21 → (a < 23 ∨ 31 ≤ a) → ξ' a = ξ a) ∧ (r = -9 ∨ (0 ≤ r ∧ r ≤ 999)) ∧ (0 ≤ r → 999 - ξ 21 3 ≤ r) ∧
      ∀ (d : Int) (ν : mm), 0 ≤ d → relD 21 2 d ξ ν → okR ν 2 → ν 2 1 ≤ 2000 + (i : Int) → ∃ ν', L5_servesAll_20 N k (n : Int) (i : Int) ν = some (if 0 ≤ r ∧ d ≤ 999 - r then 1 else 0, ν') ∧ ∀ a, a ≠ 2 → ν' a = ν a := by
  intro k
  induction k with
  | zero => intro i ξ h1 h2; omega
  | succ k ih =>
    intro i ξ h1 h2 ok
    have hs := ok.2
    by_cases c : (n : Int) ≤ (i : Int)
    · refine ⟨999 - ξ 21 3, ξ, ?_, fun _ _ _ => rfl, Or.inr (by omega), fun _ => Int.le_refl _, fun d ν hd X okν _ => ⟨ν, ?_, fun _ _ => rfl⟩⟩
      · rw [L4_stock_41, if_pos (show inR (i : Int) ∧ inR (n : Int) by omega), if_pos c]
      · have e := X.2.1
        have h2 := okν.2.2.1
        rw [L5_servesAll_20, if_pos (show inR (i : Int) ∧ inR (n : Int) by omega), if_pos c, if_pos (by omega)]
    · have hm := ok.1.1
      obtain ⟨r, ξ1, e, hr, ok1, m1, s1, fr, G⟩ := ahead_loop N N 0 ξ (by omega) (by omega) ok
      rw [show ((0 : Nat) : Int) = 0 from rfl] at e G
      have g4 : L4_stock_41 N (k + 1) (n : Int) (i : Int) ξ = if r < 0 then L4_stock_41 N k (n : Int) ((i : Int) + 1) (dyO 21 ξ1) else some (-9, ξ1) := by
        rw [L4_stock_41, if_pos (show inR (i : Int) ∧ inR (n : Int) by omega), if_neg c]
        unfold M1_issueAhead
        rw [e, Option.bind_some]
        dsimp only
        rw [if_pos (show inR r by omega), oneDay_eq N hN ok1.1, Option.bind_some]
      have g5 : ∀ (ν ν1 : mm) (r' : Int), L5_refusesOne_2 N N 0 ν = some (r', ν1) → inR r' → r' < 0 → okR ν1 2 → L5_servesAll_20 N (k + 1) (n : Int) (i : Int) ν = L5_servesAll_20 N k (n : Int) ((i : Int) + 1) (dayR 2 ν1) := by
        intro ν ν1 r' e' hr' h0 okν
        rw [L5_servesAll_20, if_pos (show inR (i : Int) ∧ inR (n : Int) by omega), if_neg c]
        unfold M5_refusesOne
        rw [e', Option.bind_some]
        dsimp only
        rw [if_pos hr', if_pos h0, M5_day_eq N 2 (by omega) okν, Option.bind_some]
      have g5' : ∀ (ν ν1 : mm) (r' : Int), L5_refusesOne_2 N N 0 ν = some (r', ν1) → inR r' → 0 ≤ r' → L5_servesAll_20 N (k + 1) (n : Int) (i : Int) ν = some (0, ν1) := by
        intro ν ν1 r' e' hr' h0
        rw [L5_servesAll_20, if_pos (show inR (i : Int) ∧ inR (n : Int) by omega), if_neg c]
        unfold M5_refusesOne
        rw [e', Option.bind_some]
        dsimp only
        rw [if_pos hr', if_neg (show ¬ r' < 0 by omega)]
      by_cases d : r < 0
      · obtain ⟨r2, ξ2, e2, f2, hr2, hs2, G2⟩ := ih (i + 1) (dyO 21 ξ1) (by omega) (by omega) (okS_day ok1)
        have e3 : dyO 21 ξ1 21 3 = ξ1 21 3 := dyN_sc (by decide) (by decide)
        rw [e3] at hs2
        refine ⟨r2, ξ2, by rw [g4, if_pos d]; exact e2, fun a h1 h2 => by rw [f2 a h1 h2, dyO_c ok1.1 h1 h2, fr a h1 h2], hr2, fun h => by have := hs2 h; omega, fun t ν ht X okν hd => ?_⟩
        obtain ⟨r', ν1, e', hr', fr', A, B, C⟩ := G t ν ht X okν
        by_cases u : t ≤ ξ1 21 3
        · obtain ⟨x1, x2, x3, x4⟩ := A d u
          obtain ⟨ν', e5, f5⟩ := G2 t (dayR 2 ν1) ht (relD_day x2 x3) (dayR_ok x3 (by omega)) (by rw [show dayR 2 ν1 2 1 = ν1 2 1 + 1 from dayN_day, x4]; omega)
          refine ⟨ν', ?_, fun a h => by rw [f5 a h, dayR_row h, fr' a h]⟩
          rw [g5 ν ν1 r' e' (by omega) (by omega) x3]
          exact e5
        · refine ⟨ν1, ?_, fr'⟩
          rw [g5' ν ν1 r' e' (by omega) (B d (by omega)), if_neg (fun z => by have := hs2 z.1; omega)]
      · refine ⟨-9, ξ1, by rw [g4, if_neg d], fr, Or.inl rfl, fun h => by omega, fun t ν ht X okν hd => ?_⟩
        obtain ⟨r', ν1, e', hr', fr', A, B, C⟩ := G t ν ht X okν
        refine ⟨ν1, ?_, fr'⟩
        rw [g5' ν ν1 r' e' (by omega) (C (by omega)).1, if_neg (fun z => by omega)]
theorem stock5 (N : Nat) (hN : 1100 ≤ N) {μ : mm} (a1 : relO 10 1 μ) (ok : okR μ 1) (hd : μ 1 1 ≤ 999) (n : Nat) (hn : n ≤ 30) (r : Int) (hr : r = -9 ∨ (0 ≤ r ∧ r ≤ 999)) (ξ : mm) (hX : ∀ (s : Nat) (ν : mm), s ≤ 999 → ν 1 = μ 1 → relD 21 2 (999 - (s : Int)) ξ (mu (cp 1 2 ν) 2 2 (s : Int)))
    (G : ∀ (d : Int) (ν : mm), 0 ≤ d → relD 21 2 d ξ ν → okR ν 2 → ν 2 1 ≤ 2000 + ((0 : Nat) : Int) → ∃ ν', L5_servesAll_20 N N (n : Int) ((0 : Nat) : Int) ν = some (if 0 ≤ r ∧ d ≤ 999 - r then 1 else 0, ν') ∧ ∀ a, a ≠ 2 → ν' a = ν a) :
    ∀ (k s : Nat) (ν : mm), s ≤ 1000 → 1000 < s + k → (0 ≤ r → (s : Int) ≤ r) → ν 1 = μ 1 → ∃ ν', L5_stock_20 N k (n : Int) (s : Int) ν = some (r, ν') ∧ ∀ a, a ≠ 2 → ν' a = ν a := by
  intro k
  induction k with
  | zero => intro s ν h1 h2; omega
  | succ k ih =>
    intro s ν h1 h2 hsr e1
    rw [L5_stock_20, if_pos (show inR (s : Int) by omega)]
    by_cases c : 999 < (s : Int)
    · rw [if_pos c]
      exact ⟨ν, by rw [show r = -9 by omega], fun _ _ => rfl⟩
    · have okc : okR (cp 1 2 ν) 2 := cp_ok (okR_congr ok e1)
      have oks : okR (mu (cp 1 2 ν) 2 2 (s : Int)) 2 := by
        obtain ⟨o1, o2, o3, o4, o5⟩ := okc
        refine ⟨by rw [mu_j (by decide)]; exact o1, by rw [mu_j (by decide)]; exact o2, by rw [mu_s]; omega, by rw [mu_j (by decide)]; exact o4, fun p hp => ?_⟩
        rw [mu_j (by decide)] at hp
        exact okP_congr (o5 p hp) (fun k hk => mu_j (by omega))
      obtain ⟨ν', e', f'⟩ := G (999 - (s : Int)) (mu (cp 1 2 ν) 2 2 (s : Int)) (by omega) (hX s ν (by omega) e1) oks (by rw [mu_j (by decide), cp_to (by decide), e1]; omega)
      rw [show ((0 : Nat) : Int) = 0 from rfl] at e'
      have fr : ∀ a, a ≠ 2 → ν' a = ν a := fun a h => by rw [f' a h, mu_row h, cp_row h]
      rw [if_neg c]
      simp only [M5_servesAll, bnd]
      rw [M5_copies_eq N 1 2 (by omega) (by decide), Option.bind_some, e', Option.bind_some]
      dsimp only
      by_cases u : 0 ≤ r ∧ 999 - (s : Int) ≤ 999 - r
      · rw [if_pos u, if_pos (by decide), if_neg (by decide)]
        exact ⟨ν', by rw [show (s : Int) = r by have := hsr u.1; omega], fr⟩
      · rw [if_neg u, if_pos (by decide), if_pos rfl]
        obtain ⟨ν2, e2, f2⟩ := ih (s + 1) ν' (by omega) (by omega) (fun h => by have := hsr h; omega) ((fr 1 (by decide)).trans e1)
        exact ⟨ν2, e2, fun a h => (f2 a h).trans (fr a h)⟩
theorem op_stock (N : Nat) (hN : 1100 ≤ N) {μ : mm} (R : Rel μ) {n : Int} (hn : inR n) : Op (M4_stock N n) (M5_stock N n) μ := by
  obtain ⟨⟨a1, a2, a3⟩, -⟩ := id R
  have hm := a2.1
  have ho := outZ_in n 1 30
  by_cases o : outZ n 1 30 = 0
  · have oo := outZ_0 o
    obtain ⟨j, rfl⟩ := Int.eq_ofNat_of_zero_le (show 0 ≤ n by omega)
    obtain ⟨X, okm, ok21⟩ := mind_days a1 a2 a3 (μ' := μ) rfl 0 (by omega)
    have frm : ∀ a, a ≠ 21 → mu (mindT μ) 21 3 999 a = mindT μ a := fun a h => mu_row h
    have oks : okS (mu (mindT μ) 21 3 999) 21 := by
      refine ⟨⟨by rw [mu_j (by decide)]; exact ok21.1, by rw [mu_j (by decide)]; exact ok21.2.1, fun p hp => ?_⟩, by rw [mu_s]; decide⟩
      rw [mu_j (by decide)] at hp
      rw [mu_row (by omega)]
      exact ok21.2.2 p hp
    obtain ⟨r, ξ', e4, f4, hr, -, G⟩ := stock_loop N (by omega) j (by omega) N 0 (mu (mindT μ) 21 3 999) (by omega) (by omega) oks
    have r1 : ξ' 1 = μ 1 := by rw [f4 1 (by decide) (by omega), frm 1 (by decide), mindT_c a1 a2 (by decide) (by omega)]
    have hX : ∀ (s : Nat) (ν : mm), s ≤ 999 → ν 1 = μ 1 → relD 21 2 (999 - (s : Int)) (mu (mindT μ) 21 3 999) (mu (cp 1 2 ν) 2 2 (s : Int)) := by
      intro s ν hs hν
      obtain ⟨x1, x2, x3, x4, x5⟩ := (mind_days a1 a2 a3 hν 0 (by omega)).1
      refine ⟨by rw [mu_j (by decide), mu_j (by decide)]; exact x1, by rw [mu_s, mu_s]; omega, by rw [mu_j (by decide), mu_j (by decide)]; exact x3, by rw [mu_j (by decide), mu_j (by decide)]; exact x4, fun p hp k hk => ?_⟩
      rw [mu_j (by decide)] at hp
      rw [mu_j (by omega), mu_c (by omega)]
      exact x5 p hp k hk
    obtain ⟨ν', e5, f5⟩ := stock5 N hN a1 a2 a3 j (by omega) r hr (mu (mindT μ) 21 3 999) hX G N 0 ξ' (by omega) (by omega) (fun h => h) r1
    rw [show ((0 : Nat) : Int) = 0 from rfl] at e4 e5
    refine ⟨r, ξ', ν', ?_, ?_, ?_⟩
    · simp only [M4_stock]
      rw [M4_outside_eq N hn (by decide) (by decide), Option.bind_some, o, if_pos (by decide), if_pos rfl, mind_eq N (by omega) a1 a2, Option.bind_some]
      exact e4
    · simp only [M5_stock]
      rw [M5_wrongBy_eq N hn (by decide) (by decide), Option.bind_some, o, if_pos (by decide), if_pos rfl]
      exact e5
    · refine Rel_scr R (fun a ha h0 => ?_) (fun i _ _ => ?_)
      · have := scr_ne ha
        rw [f5 a (by omega), f4 a (by omega) (by omega), frm a (by omega), mindT_c a1 a2 (by omega) (by omega)]
      · rw [f5 0 (by decide), f4 0 (by decide) (by omega), frm 0 (by decide), mindT_c a1 a2 (by decide) (by omega)]
  · refine Op_ref N R (c := outZ n 1 30) (by omega) ?_ (fun ν _ => ?_)
    · simp only [M4_stock]
      rw [M4_outside_eq N hn (by decide) (by decide), Option.bind_some, if_pos (show inR (outZ n 1 30) by omega), if_neg o, rf4 N ho]
    · simp only [M5_stock]
      rw [M5_wrongBy_eq N hn (by decide) (by decide), Option.bind_some, if_pos (show inR (outZ n 1 30) by omega), if_neg o, rf5 N ho]
end
section
/-! sets of people as bits -/
def bitZ (x : Int) (i : Nat) : Int := (x / 2 ^ i) % 2
theorem zor_bit : ∀ p, p < 8 → ∀ m, m < 2 ^ p → zor ((m : Nat) : Int) (1 * 2 ^ p) = ((m + 2 ^ p : Nat) : Int) ∧ zor ((m : Nat) : Int) 0 = ((m : Nat) : Int) := by decide +kernel
theorem zand_sub : ∀ x, x < 256 → ∀ m, m < 256 → (zand ((x : Nat) : Int) (zxor ((m : Nat) : Int) (-1)) == 0) = (Nat.land x m == x) := by decide +kernel
end
section
theorem bit_add : ∀ p, p < 8 → ∀ m, m < 2 ^ p → ∀ j, j < 8 → (m + 2 ^ p) / 2 ^ j % 2 = if j = p then 1 else m / 2 ^ j % 2 := by decide +kernel
def maskN (f : Nat → Bool) : Nat → Nat
  | 0 => 0
  | p + 1 => maskN f p + (if f p then 2 ^ p else 0)
theorem maskN_lt (f : Nat → Bool) : ∀ p, maskN f p < 2 ^ p := by
  intro p
  induction p with
  | zero => exact Nat.one_pos
  | succ p ih =>
    have e : 2 ^ (p + 1) = 2 ^ p * 2 := Nat.pow_succ 2 p
    unfold maskN
    split <;> omega
theorem maskN_bit (f : Nat → Bool) : ∀ p, p ≤ 8 → ∀ j, j < 8 → maskN f p / 2 ^ j % 2 = if j < p ∧ f j = true then 1 else 0 := by
  intro p
  induction p with
  | zero =>
    intro _ j hj
    rw [if_neg (by omega)]
    show 0 / 2 ^ j % 2 = 0
    rw [Nat.zero_div]
  | succ p ih =>
    intro hp j hj
    have a := ih (by omega) j hj
    have b := bit_add p (by omega) (maskN f p) (maskN_lt f p) j hj
    unfold maskN
    by_cases c : f p = true
    · rw [if_pos c, b]
      by_cases d : j = p
      · subst d
        rw [if_pos rfl, if_pos ⟨by omega, c⟩]
      · rw [if_neg d, a]
        by_cases e : j < p ∧ f j = true
        · rw [if_pos e, if_pos ⟨by omega, e.2⟩]
        · rw [if_neg e, if_neg (fun z => e ⟨by omega, z.2⟩)]
    · rw [if_neg c, Nat.add_zero, a]
      by_cases e : j < p ∧ f j = true
      · rw [if_pos e, if_pos ⟨by omega, e.2⟩]
      · rw [if_neg e, if_neg (fun z => e ⟨by
          have : j ≠ p := fun h => c (h ▸ z.2)
          omega, z.2⟩)]
/-- x lies within m, told by places -/
theorem land_sub {x m : Nat} (hx : x < 256) : Nat.land x m = x ↔ ∀ j, j < 8 → x / 2 ^ j % 2 = 1 → m / 2 ^ j % 2 = 1 := by
  constructor
  · intro h j _ h1
    have e : (x &&& m).testBit j = x.testBit j := congrArg (fun z => Nat.testBit z j) h
    rw [Nat.testBit_and, Nat.testBit_eq_decide_div_mod_eq, Nat.testBit_eq_decide_div_mod_eq, h1] at e
    simpa using e
  · intro h
    show x &&& m = x
    refine Nat.eq_of_testBit_eq (fun j => ?_)
    rw [Nat.testBit_and]
    by_cases hj : j < 8
    · rw [Nat.testBit_eq_decide_div_mod_eq, Nat.testBit_eq_decide_div_mod_eq]
      by_cases c : x / 2 ^ j % 2 = 1
      · rw [c, h j hj c]
        rfl
      · simp [c]
    · have : x < 2 ^ j := Nat.lt_of_lt_of_le hx (by
        have : 2 ^ 8 ≤ 2 ^ j := Nat.pow_le_pow_right (by decide) (by omega)
        exact this)
      rw [Nat.testBit_lt_two_pow this, Bool.false_and]
theorem bitZ_nat (x j : Nat) : ((x : Nat) : Int) / 2 ^ ((j : Nat) : Int).toNat % 2 = ((x / 2 ^ j % 2 : Nat) : Int) := by
  show ((x : Nat) : Int) / 2 ^ j % 2 = ((x / 2 ^ j % 2 : Nat) : Int)
  rw [show ((2 : Int) ^ j) = ((2 ^ j : Nat) : Int) from (Int.natCast_pow 2 j).symm]
  rfl
def bsN (x : Nat) : Nat → Nat
  | 0 => 0
  | p + 1 => bsN x p + x / 2 ^ p % 2
theorem bits_loop (N x : Nat) (hx : x < 256) (μ : mm) : ∀ k p, p ≤ 8 → 8 < p + k → L5_bits_4 N k (x : Int) ((bsN x p : Nat) : Int) (p : Int) μ = some ((bsN x 8 : Nat) : Int) := by
  intro k
  induction k with
  | zero => intro p h1 h2; omega
  | succ k ih =>
    intro p h1 h2
    rw [L5_bits_4, if_pos (show inR (p : Int) by omega)]
    by_cases c : 8 ≤ (p : Int)
    · rw [if_pos c, show p = 8 by omega]
    · rw [if_neg c, if_pos (show inR (x : Int) ∧ 0 ≤ (p : Int) ∧ (p : Int) < 32 by omega), bitZ_nat]
      simp only [bnd]
      exact ih (p + 1) (by omega) (by omega)
theorem zpop_all : ∀ x, x < 256 → zpop ((x : Nat) : Int) = ((bsN x 8 : Nat) : Int) := by decide +kernel
theorem M5_bits_eq (N x : Nat) (hN : 10 ≤ N) (hx : x < 256) (μ : mm) : M5_bits N (x : Int) μ = some (zpop (x : Int)) := by
  rw [zpop_all x hx]
  exact bits_loop N x hx μ N 0 (by omega) (by omega)
theorem M6_bits_eq (N x : Nat) (hx : x < 256) (μ : mm) : M6_bitCount_0f7a4 N (x : Int) μ = some (zpop (x : Int)) := by
  unfold M6_bitCount_0f7a4
  rw [if_pos (by omega)]
theorem zpop_in (x : Int) : 0 ≤ zpop x ∧ zpop x ≤ 8 := by unfold zpop; omega
theorem M5_has_eq (N x p : Nat) (hx : x < 256) (hp : p < 8) (μ : mm) : M5_has N (x : Int) (p : Int) μ = some (if x / 2 ^ p % 2 = 1 then 1 else 0) := by
  unfold M5_has
  rw [bitZ_nat, if_pos (show inR (x : Int) ∧ 0 ≤ (p : Int) ∧ (p : Int) < 32 by omega), if_pos (show inR ((x / 2 ^ p % 2 : Nat) : Int) by omega)]
  by_cases c : x / 2 ^ p % 2 = 1
  · rw [if_pos c, if_pos (by omega)]
  · rw [if_neg c, if_neg (by omega)]
/-- what those of a set lack together, of the first p -/
def lkN (f : Nat → Int) (x : Nat) : Nat → Int
  | 0 => 0
  | p + 1 => lkN f x p + (if x / 2 ^ p % 2 = 1 then f p else 0)
theorem lkN_in {f : Nat → Int} (x : Nat) : ∀ p, (∀ i, i < p → 0 ≤ f i ∧ f i ≤ 24) → 0 ≤ lkN f x p ∧ lkN f x p ≤ 24 * (p : Int) := by
  intro p
  induction p with
  | zero => intro _; exact ⟨Int.le_refl _, Int.le_refl _⟩
  | succ p ih =>
    intro h
    have a := ih (fun i hi => h i (by omega))
    have b := h p (by omega)
    unfold lkN
    split <;> omega
theorem M1_lackOf_loop (N : Nat) {o : Nat} (ho : isO o) {ξ : mm} (ok : okO ξ o) (x : Nat) (hx : x < 256) : ∀ k p : Nat, (p : Int) ≤ ξ o 2 → ξ o 2 < (p : Int) + k → L1_lackOf_4 N k o (x : Int) (lkN (fun p => lackZ (ξ (o + 2 + p))) x p) (p : Int) ξ = some (lkN (fun p => lackZ (ξ (o + 2 + p))) x (ξ o 2).toNat) := by
  have hm := ok.1
  intro k
  induction k with
  | zero => intro p h1 h2; omega
  | succ k ih =>
    intro p h1 h2
    rw [L1_lackOf_4, if_pos (show inR (p : Int) ∧ inR (ξ o 2) by omega)]
    by_cases c : ξ o 2 ≤ (p : Int)
    · rw [if_pos c, show (ξ o 2).toNat = p by omega]
    · have hp8 : p < 8 := by omega
      rw [if_neg c, if_pos (show inR (x : Int) ∧ 0 ≤ (p : Int) ∧ (p : Int) < 32 by omega)]
      simp only [bitZ_nat]
      rw [if_pos (show inR ((x / 2 ^ p % 2 : Nat) : Int) by omega), M1_at_eq N o p hp8, Option.bind_some, if_pos (kdO ho hp8), M2_lacking_eq N _ (ok.2.2 p (by omega)), Option.bind_some]
      simp only [J1_lackOf_32, bnd]
      have n := ih (p + 1) (by omega) (by omega)
      rw [show lkN (fun p => lackZ (ξ (o + 2 + p))) x (p + 1) = lkN (fun p => lackZ (ξ (o + 2 + p))) x p + (if x / 2 ^ p % 2 = 1 then lackZ (ξ (o + 2 + p)) else 0) from rfl] at n
      by_cases d : x / 2 ^ p % 2 = 1
      · rw [if_pos (show ((x / 2 ^ p % 2 : Nat) : Int) = 1 by omega)]
        rw [if_pos d] at n
        exact n
      · rw [if_neg (show ¬ ((x / 2 ^ p % 2 : Nat) : Int) = 1 by omega)]
        rw [if_neg d, Int.add_zero] at n
        exact n
theorem M5_lacksOf_loop (N : Nat) {μ : mm} (ok : okR μ 1) (f : Nat → Int) (hf : ∀ p : Nat, (p : Int) < μ 1 0 → f p = lackZ (pq μ 1 p)) (x : Nat) (hx : x < 256) : ∀ k p : Nat, (p : Int) ≤ μ 1 0 → μ 1 0 < (p : Int) + k → L5_lacksOf_4 N k (x : Int) (lkN f x p) (p : Int) μ = some (lkN f x (μ 1 0).toNat) := by
  have hm := ok.1
  intro k
  induction k with
  | zero => intro p h1 h2; omega
  | succ k ih =>
    intro p h1 h2
    rw [L5_lacksOf_4, if_pos (show inR (p : Int) ∧ inR (μ 1 0) by omega)]
    by_cases c : μ 1 0 ≤ (p : Int)
    · rw [if_pos c, show (μ 1 0).toNat = p by omega]
    · have hp8 : p < 8 := by omega
      have eL := M5_lacksIn_eq N 1 p μ hp8 (pq_at μ 1 p) (ok.2.2.2.2 p (by omega))
      rw [show (if pq μ 1 p 3 = 0 then (0 : Int) else max 0 (needsZ (pq μ 1 p 0) (pq μ 1 p 1) - pq μ 1 p 2)) = lackZ (pq μ 1 p) from rfl, ← hf p (by omega)] at eL
      rw [if_neg c, M5_has_eq N x p hx hp8, Option.bind_some, eL, Option.bind_some]
      simp only [J5_lacksOf_35, bnd]
      have n := ih (p + 1) (by omega) (by omega)
      rw [show lkN f x (p + 1) = lkN f x p + (if x / 2 ^ p % 2 = 1 then f p else 0) from rfl] at n
      by_cases d : x / 2 ^ p % 2 = 1
      · rw [if_pos d, if_pos (by decide), if_neg (by decide)]
        rw [if_pos d] at n
        exact n
      · rw [if_neg d, if_pos (by decide), if_pos rfl]
        rw [if_neg d] at n
        exact n
theorem M5_lacking_loop (N : Nat) {μ : mm} (ok : okR μ 1) (f : Nat → Int) (hf : ∀ p : Nat, (p : Int) < μ 1 0 → f p = lackZ (pq μ 1 p)) : ∀ k p : Nat, (p : Int) ≤ μ 1 0 → μ 1 0 < (p : Int) + k → L5_lacking_4 N k ((maskN (fun i => decide (0 < f i)) p : Nat) : Int) (p : Int) μ = some ((maskN (fun i => decide (0 < f i)) (μ 1 0).toNat : Nat) : Int) := by
  have hm := ok.1
  intro k
  induction k with
  | zero => intro p h1 h2; omega
  | succ k ih =>
    intro p h1 h2
    rw [L5_lacking_4, if_pos (show inR (p : Int) ∧ inR (μ 1 0) by omega)]
    by_cases c : μ 1 0 ≤ (p : Int)
    · rw [if_pos c, show (μ 1 0).toNat = p by omega]
    · have hp8 : p < 8 := by omega
      have hq := ok.2.2.2.2 p (by omega)
      have hl := lackZ_in hq
      have eL := M5_lacksIn_eq N 1 p μ hp8 (pq_at μ 1 p) hq
      rw [show (if pq μ 1 p 3 = 0 then (0 : Int) else max 0 (needsZ (pq μ 1 p 0) (pq μ 1 p 1) - pq μ 1 p 2)) = lackZ (pq μ 1 p) from rfl, ← hf p (by omega)] at eL
      rw [← hf p (by omega)] at hl
      have z := zor_bit p hp8 (maskN (fun i => decide (0 < f i)) p) (maskN_lt _ p)
      rw [if_neg c, eL, Option.bind_some, if_pos (show inR (f p) by omega), if_pos (show 0 ≤ (p : Int) ∧ (p : Int) < 32 by omega)]
      simp only [J5_lacking_33, bnd]
      have n := ih (p + 1) (by omega) (by omega)
      rw [show maskN (fun i => decide (0 < f i)) (p + 1) = maskN (fun i => decide (0 < f i)) p + (if decide (0 < f p) = true then 2 ^ p else 0) from rfl] at n
      by_cases d : f p ≤ 0
      · rw [if_pos d, z.2]
        rw [if_neg (by simp; omega), Nat.add_zero] at n
        exact n
      · rw [if_neg d]
        rw [if_pos (by simp; omega)] at n
        show L5_lacking_4 N k (zor ((maskN (fun i => decide (0 < f i)) p : Nat) : Int) (1 * 2 ^ p)) ((p : Int) + 1) μ = _
        rw [z.1]
        exact n
/-- all of a set lack something -/
theorem M1_lackAll_loop (N : Nat) {o : Nat} (ho : isO o) {ξ : mm} (ok : okO ξ o) (x : Nat) (hx : x < 256) : ∀ k p : Nat, (p : Int) ≤ ξ o 2 → ξ o 2 < (p : Int) + k → ∃ r : Int, L1_lackAll_2 N k o (x : Int) (p : Int) ξ = some r ∧ (r = 0 ∨ r = 1) ∧ (r = 1 ↔ ∀ j : Nat, p ≤ j → (j : Int) < ξ o 2 → x / 2 ^ j % 2 = 1 → 0 < lackZ (ξ (o + 2 + j))) := by
  have hm := ok.1
  intro k
  induction k with
  | zero => intro p h1 h2; omega
  | succ k ih =>
    intro p h1 h2
    rw [L1_lackAll_2, if_pos (show inR (p : Int) ∧ inR (ξ o 2) by omega)]
    by_cases c : ξ o 2 ≤ (p : Int)
    · rw [if_pos c]
      exact ⟨1, rfl, Or.inr rfl, fun _ j h1 h2 => by omega, fun _ => rfl⟩
    · have hp8 : p < 8 := by omega
      have hl := lackZ_in (ok.2.2 p (by omega))
      rw [if_neg c, if_pos (show inR (x : Int) ∧ 0 ≤ (p : Int) ∧ (p : Int) < 32 by omega)]
      simp only [bitZ_nat]
      rw [if_pos (show inR ((x / 2 ^ p % 2 : Nat) : Int) by omega), M1_at_eq N o p hp8, Option.bind_some, if_pos (kdO ho hp8), M2_lacking_eq N _ (ok.2.2 p (by omega)), Option.bind_some, if_pos (show inR (lackZ (ξ (o + 2 + p))) by omega)]
      simp only [J1_lackAll_32]
      obtain ⟨r, e, hr, iff⟩ := ih (p + 1) (by omega) (by omega)
      have skip : (x / 2 ^ p % 2 = 1 → 0 < lackZ (ξ (o + 2 + p))) → ∃ r : Int, L1_lackAll_2 N k o (x : Int) ((p : Int) + 1) ξ = some r ∧ (r = 0 ∨ r = 1) ∧ (r = 1 ↔ ∀ j : Nat, p ≤ j → (j : Int) < ξ o 2 → x / 2 ^ j % 2 = 1 → 0 < lackZ (ξ (o + 2 + j))) := by
        intro hpp
        refine ⟨r, e, hr, fun h j h1 h2 h3 => ?_, fun h => iff.mpr (fun j h1 h2 h3 => h j (by omega) h2 h3)⟩
        by_cases t : j = p
        · subst t
          exact hpp h3
        · exact iff.mp h j (by omega) h2 h3
      by_cases d : x / 2 ^ p % 2 = 1
      · rw [if_pos (show ((x / 2 ^ p % 2 : Nat) : Int) = 1 by omega)]
        by_cases g : lackZ (ξ (o + 2 + p)) = 0
        · rw [if_pos g]
          refine ⟨0, rfl, Or.inl rfl, fun h => by omega, fun h => ?_⟩
          have := h p (by omega) (by omega) d
          omega
        · rw [if_neg g]
          exact skip (fun _ => by omega)
      · rw [if_neg (show ¬ ((x / 2 ^ p % 2 : Nat) : Int) = 1 by omega)]
        exact skip (fun h => absurd h d)
end
section
/-! serve -/
theorem zand_iff {x m : Nat} (hx : x < 256) (hm : m < 256) : zand (x : Int) (zxor (m : Int) (-1)) = 0 ↔ Nat.land x m = x := by
  have z := zand_sub x hx m hm
  constructor
  · intro h
    rw [h] at z
    exact beq_iff_eq.mp (z.symm.trans rfl)
  · intro h
    rw [h] at z
    exact beq_iff_eq.mp (z.trans (beq_self_eq_true x))
theorem zand_in (x y : Int) : inR (zand x y) := by
  have a := Int32.toInt_lt (iO x &&& iO y)
  have b := Int32.le_toInt (iO x &&& iO y)
  unfold zand
  omega
def sv (m : Nat) (g : Nat → Prop) [DecidablePred g] (who x : Nat) : Nat := if zpop (who : Int) < zpop (x : Int) ∧ Nat.land x m = x ∧ g x then x else who
def svF (m : Nat) (g : Nat → Prop) [DecidablePred g] : Nat → Nat → Nat → Nat
  | 0, _, who => who
  | k + 1, x, who => svF m g k (x + 1) (sv m g who x)
theorem svF_add (m : Nat) (g : Nat → Prop) [DecidablePred g] (b : Nat) : ∀ a x who, svF m g (a + b) x who = svF m g b (x + a) (svF m g a x who) := by
  intro a
  induction a with
  | zero => intro x who; rw [Nat.zero_add]; rfl
  | succ a ih =>
    intro x who
    rw [show a + 1 + b = (a + b) + 1 by omega]
    show svF m g (a + b) (x + 1) (sv m g who x) = svF m g b (x + (a + 1)) (svF m g a (x + 1) (sv m g who x))
    rw [ih, show x + 1 + a = x + (a + 1) by omega]
theorem svF_end (m : Nat) (g : Nat → Prop) [DecidablePred g] : ∀ a x who, m < x → svF m g a x who = who := by
  intro a
  induction a with
  | zero => intro x who _; rfl
  | succ a ih =>
    intro x who h
    show svF m g a (x + 1) (sv m g who x) = who
    rw [ih (x + 1) _ (by omega)]
    unfold sv
    rw [if_neg]
    intro z
    have : x &&& m ≤ m := Nat.and_le_right
    have e : x &&& m = x := z.2.1
    omega
theorem svF_one (m : Nat) (g : Nat → Prop) [DecidablePred g] (P : Nat) (hP : m < P) : svF m g (P - 1) 1 0 = svF m g (m + 1 - 0) 0 0 := by
  show _ = svF m g m 1 (sv m g 0 0)
  have e0 : sv m g 0 0 = 0 := by
    unfold sv
    split <;> rfl
  rw [e0, show P - 1 = m + (P - 1 - m) by omega, svF_add, svF_end m g _ _ _ (by omega)]
theorem serve4 (N : Nat) (hN : 300 ≤ N) {μ : mm} (ok : okO μ 10) (hs : inR (μ 10 3)) (F : Nat → Int) (hF : F = fun p => lackZ (μ (10 + 2 + p))) (n : Nat) (hn : n = (μ 10 2).toNat) (m : Nat) (hm : m = maskN (fun i => decide (0 < F i)) n) {w : Int} (hw : inR w) : ∀ (k x who : Nat), x ≤ 2 ^ n → 2 ^ n < x + k → who < 256 →
    L4_serve_24 N k w (zpop (who : Int)) (who : Int) (x : Int) μ = some (if w = 0 then zpop ((svF m (fun x => lkN F x n ≤ μ 10 3) (2 ^ n - x) x who : Nat) : Int) else if w = 1 then ((svF m (fun x => lkN F x n ≤ μ 10 3) (2 ^ n - x) x who : Nat) : Int) else μ 10 3 - lkN F (svF m (fun x => lkN F x n ≤ μ 10 3) (2 ^ n - x) x who) n, μ) := by
  have h8 := ok.1
  have hn8 : n ≤ 8 := by omega
  have hP : 2 ^ n ≤ 256 := Nat.pow_le_pow_right (n := 2) (by decide) hn8
  have eP : (1 * 2 ^ (μ 10 2).toNat : Int) = ((2 ^ n : Nat) : Int) := by
    rw [← hn, Int.one_mul, Int.natCast_pow]
    rfl
  have lk : ∀ x : Nat, x < 256 → M1_lackOf N 10 (x : Int) μ = some (lkN F x n) := by
    intro x hx
    have := M1_lackOf_loop N (o := 10) (Or.inl rfl) ok x hx N 0 (by omega) (by omega)
    rw [hF, hn]
    exact this
  have lkin : ∀ x : Nat, 0 ≤ lkN F x n ∧ lkN F x n ≤ 24 * (n : Int) := fun x => lkN_in x n (fun i hi => by rw [hF]; exact lackZ_in (ok.2.2 i (by omega)))
  intro k
  induction k with
  | zero => intro x who h1 h2; omega
  | succ k ih =>
    intro x who h1 h2 hwho
    have zw := zpop_in (who : Int)
    have zx := zpop_in (x : Int)
    rw [L4_serve_24, if_pos (show 0 ≤ μ 10 2 ∧ μ 10 2 < 32 by omega), eP, if_pos (show inR (x : Int) ∧ inR ((2 ^ n : Nat) : Int) by omega)]
    by_cases c : ((2 ^ n : Nat) : Int) ≤ (x : Int)
    · rw [if_pos c, show 2 ^ n - x = 0 by omega, if_pos hw, if_pos hw, lk who hwho]
      show _ = some (if w = 0 then zpop ((who : Nat) : Int) else if w = 1 then ((who : Nat) : Int) else μ 10 3 - lkN F who n, μ)
      split
      · rfl
      · split <;> rfl
    · have hx : x < 256 := by omega
      have hxn : x < 2 ^ n := by omega
      obtain ⟨r, e, hr, iff⟩ := M1_lackAll_loop N (o := 10) (Or.inl rfl) ok x hx N 0 (by omega) (by omega)
      have sub : r = 1 ↔ Nat.land x m = x := by
        rw [iff, land_sub hx]
        constructor
        · intro h j hj hb
          have hjn : j < n := by
            by_cases t : j < n
            · exact t
            · have : 2 ^ n ≤ 2 ^ j := Nat.pow_le_pow_right (by decide) (by omega)
              rw [Nat.div_eq_of_lt (by omega)] at hb
              exact absurd hb (by decide)
          have := h j (by omega) (by omega) hb
          rw [hm, maskN_bit _ n hn8 j hj, if_pos ⟨hjn, by rw [hF]; exact decide_eq_true this⟩]
        · intro h j _ hj hb
          have := h j (by omega) hb
          rw [hm, maskN_bit _ n hn8 j (by omega)] at this
          by_cases t : j < n ∧ decide (0 < F j) = true
          · have t2 := of_decide_eq_true t.2
            rw [hF] at t2
            exact t2
          · rw [if_neg t] at this
            exact absurd this (by decide)
      rw [show ((0 : Nat) : Int) = 0 from rfl] at e
      have eA : M1_lackAll N 10 (x : Int) μ = some r := e
      have st : ∀ who' : Nat, who' < 256 → sv m (fun x => lkN F x n ≤ μ 10 3) who x = who' → L4_serve_24 N k w (zpop (who' : Int)) (who' : Int) ((x : Int) + 1) μ = some (if w = 0 then zpop ((svF m (fun x => lkN F x n ≤ μ 10 3) (2 ^ n - x) x who : Nat) : Int) else if w = 1 then ((svF m (fun x => lkN F x n ≤ μ 10 3) (2 ^ n - x) x who : Nat) : Int) else μ 10 3 - lkN F (svF m (fun x => lkN F x n ≤ μ 10 3) (2 ^ n - x) x who) n, μ) := by
        intro who' hw' hsv
        have := ih (x + 1) who' (by omega) (by omega) hw'
        rw [show 2 ^ n - x = (2 ^ n - (x + 1)) + 1 by omega]
        show _ = some (if w = 0 then zpop ((svF m (fun x => lkN F x n ≤ μ 10 3) (2 ^ n - (x + 1)) (x + 1) (sv m (fun x => lkN F x n ≤ μ 10 3) who x) : Nat) : Int) else if w = 1 then ((svF m (fun x => lkN F x n ≤ μ 10 3) (2 ^ n - (x + 1)) (x + 1) (sv m (fun x => lkN F x n ≤ μ 10 3) who x) : Nat) : Int) else μ 10 3 - lkN F (svF m (fun x => lkN F x n ≤ μ 10 3) (2 ^ n - (x + 1)) (x + 1) (sv m (fun x => lkN F x n ≤ μ 10 3) who x)) n, μ)
        rw [hsv]
        exact this
      have lx := lkin x
      rw [if_neg c, M6_bits_eq N x hx, Option.bind_some, if_pos (show inR (zpop (x : Int)) ∧ inR (zpop (who : Int)) by omega), eA, Option.bind_some, if_pos (show inR r by omega), lk x hx, Option.bind_some, if_pos (show inR (lkN F x n) ∧ inR (μ 10 3) by omega)]
      simp only [J4_serve_89]
      by_cases d : zpop (x : Int) ≤ zpop (who : Int)
      · rw [if_pos d]
        exact st who hwho (by unfold sv; rw [if_neg (fun z => by omega)])
      · rw [if_neg d]
        by_cases g : r = 0
        · rw [if_pos g]
          exact st who hwho (by unfold sv; rw [if_neg (fun z => by have := sub.mpr z.2.1; omega)])
        · rw [if_neg g]
          by_cases u : μ 10 3 < lkN F x n
          · rw [if_pos u]
            exact st who hwho (by unfold sv; rw [if_neg (fun z => by have := z.2.2; omega)])
          · rw [if_neg u]
            exact st x hx (by unfold sv; rw [if_pos ⟨by omega, sub.mp (by omega), by omega⟩])
theorem serve5 (N : Nat) (hN : 300 ≤ N) {μ : mm} (ok : okR μ 1) (F : Nat → Int) (hF : ∀ p : Nat, (p : Int) < μ 1 0 → F p = lackZ (pq μ 1 p)) (n : Nat) (hn : n = (μ 1 0).toNat) (m : Nat) (hm : m < 256) {w : Int} (hw : inR w) : ∀ (k x who : Nat), x ≤ m + 1 → m + 1 < x + k → who < 256 →
    L5_serve_26 N k w (m : Int) (who : Int) (x : Int) μ = some (if w = 0 then zpop ((svF m (fun x => lkN F x n ≤ μ 1 2) (m + 1 - x) x who : Nat) : Int) else if w = 1 then ((svF m (fun x => lkN F x n ≤ μ 1 2) (m + 1 - x) x who : Nat) : Int) else μ 1 2 - lkN F (svF m (fun x => lkN F x n ≤ μ 1 2) (m + 1 - x) x who) n, μ) := by
  have h8 := ok.1
  have hs := ok.2.2.1
  have lk : ∀ x : Nat, x < 256 → M5_lacksOf N (x : Int) μ = some (lkN F x n) := by
    intro x hx
    have := M5_lacksOf_loop N ok F hF x hx N 0 (by omega) (by omega)
    rw [hn]
    exact this
  have lkin : ∀ x : Nat, 0 ≤ lkN F x n ∧ lkN F x n ≤ 24 * (n : Int) := fun x => lkN_in x n (fun i hi => by rw [hF i (by omega)]; exact lackZ_in (ok.2.2.2.2 i (by omega)))
  intro k
  induction k with
  | zero => intro x who h1 h2; omega
  | succ k ih =>
    intro x who h1 h2 hwho
    have zw := zpop_in (who : Int)
    have zx := zpop_in (x : Int)
    rw [L5_serve_26, if_pos (show inR (x : Int) ∧ inR (m : Int) by omega)]
    by_cases c : (m : Int) < (x : Int)
    · rw [if_pos c, show m + 1 - x = 0 by omega, if_pos hw, if_pos hw, lk who hwho, M5_bits_eq N who (by omega) hwho]
      show _ = some (if w = 0 then zpop ((who : Nat) : Int) else if w = 1 then ((who : Nat) : Int) else μ 1 2 - lkN F who n, μ)
      split
      · rfl
      · split <;> rfl
    · have hx : x < 256 := by omega
      have st : ∀ who' : Nat, who' < 256 → sv m (fun x => lkN F x n ≤ μ 1 2) who x = who' → L5_serve_26 N k w (m : Int) (who' : Int) ((x : Int) + 1) μ = some (if w = 0 then zpop ((svF m (fun x => lkN F x n ≤ μ 1 2) (m + 1 - x) x who : Nat) : Int) else if w = 1 then ((svF m (fun x => lkN F x n ≤ μ 1 2) (m + 1 - x) x who : Nat) : Int) else μ 1 2 - lkN F (svF m (fun x => lkN F x n ≤ μ 1 2) (m + 1 - x) x who) n, μ) := by
        intro who' hw' hsv
        have := ih (x + 1) who' (by omega) (by omega) hw'
        rw [show m + 1 - x = (m + 1 - (x + 1)) + 1 by omega]
        show _ = some (if w = 0 then zpop ((svF m (fun x => lkN F x n ≤ μ 1 2) (m + 1 - (x + 1)) (x + 1) (sv m (fun x => lkN F x n ≤ μ 1 2) who x) : Nat) : Int) else if w = 1 then ((svF m (fun x => lkN F x n ≤ μ 1 2) (m + 1 - (x + 1)) (x + 1) (sv m (fun x => lkN F x n ≤ μ 1 2) who x) : Nat) : Int) else μ 1 2 - lkN F (svF m (fun x => lkN F x n ≤ μ 1 2) (m + 1 - (x + 1)) (x + 1) (sv m (fun x => lkN F x n ≤ μ 1 2) who x)) n, μ)
        rw [hsv]
        exact this
      have lx := lkin x
      rw [if_neg c, if_pos (zand_in _ _), M5_bits_eq N x (by omega) hx, Option.bind_some, M5_bits_eq N who (by omega) hwho, Option.bind_some, if_pos (show inR (zpop (x : Int)) ∧ inR (zpop (who : Int)) by omega), lk x hx, Option.bind_some, if_pos (show inR (lkN F x n) ∧ inR (μ 1 2) by omega)]
      simp only [J5_serve_71]
      by_cases g : Nat.land x m = x
      · rw [if_pos ((zand_iff hx hm).mpr g)]
        by_cases d : zpop (x : Int) ≤ zpop (who : Int)
        · rw [if_pos d]
          exact st who hwho (by unfold sv; rw [if_neg (fun z => by omega)])
        · rw [if_neg d]
          by_cases u : μ 1 2 < lkN F x n
          · rw [if_pos u]
            exact st who hwho (by unfold sv; rw [if_neg (fun z => by have := z.2.2; omega)])
          · rw [if_neg u]
            exact st x hx (by unfold sv; rw [if_pos ⟨by omega, g, by omega⟩])
      · rw [if_neg (fun z => g ((zand_iff hx hm).mp z))]
        exact st who hwho (by unfold sv; rw [if_neg (fun z => g z.2.1)])
theorem Op_same {f g : mm → Option (Int × mm)} {μ : mm} {r : Int} (R : Rel μ) (h4 : f μ = some (r, μ)) (h5 : g μ = some (r, μ)) : Op f g μ := ⟨r, μ, μ, h4, h5, R⟩
theorem op_serve (N : Nat) (hN : 300 ≤ N) {μ : mm} (R : Rel μ) {w : Int} (hw : inR w) : Op (M4_serve N w) (M5_serve N w) μ := by
  obtain ⟨⟨a1, a2, a3⟩, -⟩ := id R
  have hm := a2.1
  by_cases t : othZ w 2 = 0
  · have tt := othZ_0 t
    have okO1 : okO μ 10 := okO_of a1 a2
    have hF5 : ∀ p : Nat, (p : Int) < μ 1 0 → (fun p => lackZ (μ (10 + 2 + p))) p = lackZ (pq μ 1 p) := fun p hp => lackZ_congr (fun k hk => (a1.2.2.2.2 p hp k hk).symm)
    have hn8 : (μ 1 0).toNat ≤ 8 := by omega
    have hmk := maskN_lt (fun i => decide (0 < (fun p => lackZ (μ (10 + 2 + p))) i)) (μ 1 0).toNat
    have hP : 2 ^ (μ 1 0).toNat ≤ 256 := Nat.pow_le_pow_right (n := 2) (by decide) hn8
    have e4 := serve4 N hN okO1 (by rw [a1.2.1]; have := a2.2.2.1; omega) (fun p => lackZ (μ (10 + 2 + p))) rfl (μ 1 0).toNat (by rw [a1.1]) _ rfl hw N 1 0 Nat.one_le_two_pow (by omega) (by decide)
    have e5 := serve5 N hN a2 (fun p => lackZ (μ (10 + 2 + p))) hF5 (μ 1 0).toNat rfl (maskN (fun i => decide (0 < (fun p => lackZ (μ (10 + 2 + p))) i)) (μ 1 0).toNat) (by omega) hw N 0 0 (by omega) (by omega) (by decide)
    rw [a1.2.1, svF_one _ _ _ hmk] at e4
    have eM := M5_lacking_loop N a2 (fun p => lackZ (μ (10 + 2 + p))) hF5 N 0 (by omega) (by omega)
    refine Op_same (f := M4_serve N w) (g := M5_serve N w) R (Eq.trans ?_ e4) (Eq.trans ?_ e5)
    · simp only [M4_serve]
      rw [M4_other_eq N hw (by decide), Option.bind_some, t, if_pos (by decide), if_pos rfl]
      rfl
    · simp only [M5_serve]
      rw [M5_isIn_eq N hw (by decide) (by decide), Option.bind_some, if_pos tt, if_pos (by decide), if_neg (by decide)]
      unfold M5_lacking
      rw [show L5_lacking_4 N N 0 0 μ = _ from eM, Option.bind_some]
      rfl
  · obtain ⟨t1, t2⟩ := oth_no t
    refine Op_ref N R (c := -2) (by decide) ?_ (fun ν _ => ?_)
    · simp only [M4_serve]
      rw [M4_other_eq N hw (by decide), Option.bind_some, t1, if_pos (by decide), if_neg (by decide), rf4 N (by decide)]
    · simp only [M5_serve]
      rw [M5_isIn_eq N hw (by decide) (by decide), Option.bind_some, if_neg t2, if_pos (by decide), if_pos rfl, rf5 N (by decide)]
end
section
/-! slip -/
def lsQ (q : Nat → Int) (b : Bool) : Nat → Int := if b = true ∧ 0 < q 2 then fu q 2 (q 2 - 1) else q
def lsI (x : Nat) : Nat → (Nat → Int) → (Nat → Int)
  | 0, q => q
  | i + 1, q => dayP (lsQ (lsI x i q) (decide (x / 2 ^ i % 2 = 1)))
def lsC (x : Nat) : Nat → (Nat → Int) → (Nat → Int)
  | 0, q => q
  | i + 1, q => dayC (lsQ (lsC x i q) (decide (x / 2 ^ i % 2 = 1)))
theorem lsQ_ok {q : Nat → Int} (h : okP q) (b : Bool) : okP (lsQ q b) := by
  unfold lsQ
  split
  · have := h.2.2.1
    exact okP_has h (by omega)
  · exact h
theorem lsQ_congr {q q' : Nat → Int} (h : ∀ k, k < 6 → q k = q' k) (b : Bool) : ∀ k, k < 6 → lsQ q b k = lsQ q' b k := by
  intro k hk
  unfold lsQ
  rw [h 2 (by decide)]
  split
  · unfold fu
    rw [h k hk]
  · exact h k hk
theorem lsC_ok {q : Nat → Int} (h : okP q) (x : Nat) : ∀ i, okP (lsC x i q) := by
  intro i
  induction i with
  | zero => exact h
  | succ i ih => exact dayC_ok (lsQ_ok ih _)
theorem lsI_ok {q : Nat → Int} (h : okP q) (x : Nat) : ∀ i, okP (lsI x i q) := by
  intro i
  induction i with
  | zero => exact h
  | succ i ih => exact dayP_ok (lsQ_ok ih _)
theorem lsC_p {q q' : Nat → Int} (h : ∀ k, k < 6 → q k = q' k) (x : Nat) : ∀ i k, k < 6 → lsC x i q k = lsI x i q' k := by
  intro i
  induction i with
  | zero => exact h
  | succ i ih =>
    intro k hk
    show dayC (lsQ (lsC x i q) _) k = dayP (lsQ (lsI x i q') _) k
    rw [dayC_p hk]
    exact dayP_congr (lsQ_congr ih _) k hk
theorem losing_loop (N x : Nat) (hx : x < 256) {μ : mm} {q : Nat → Int} (hq : okP q) (c n : Nat) (hc : c ≠ 43) (hn : n ≤ 7) : ∀ (k i : Nat), i ≤ n → n < i + k → L4_throughLosing_22 N k (n : Int) (x : Int) c (i : Int) (putC μ 43 (lsC x i q)) = some (lsC x n q 4 - μ c 4, putC μ 43 (lsC x n q)) := by
  intro k
  induction k with
  | zero => intro i h1 h2; omega
  | succ k ih =>
    intro i h1 h2
    have ok := lsC_ok hq x i
    have es : ∀ y, putC μ 43 (lsC x i q) 43 y = lsC x i q y := fun y => congrFun putC_s y
    have nx := ih (i + 1)
    rw [L4_throughLosing_22, if_pos (show inR (i : Int) ∧ inR (n : Int) by omega)]
    by_cases d : (n : Int) ≤ (i : Int)
    · rw [if_pos d, es, show putC μ 43 (lsC x i q) c 4 = μ c 4 from congrFun (putC_row hc) 4, show i = n by omega]
    · rw [if_neg d, if_pos (show inR (x : Int) ∧ 0 ≤ (i : Int) ∧ (i : Int) < 32 by omega)]
      simp only [bitZ_nat, es, bnd, J4_throughLosing_61]
      have h2' := ok.2.2.1
      rw [if_pos (show inR ((x / 2 ^ i % 2 : Nat) : Int) by omega), if_pos (show inR (lsC x i q 2) by omega)]
      have mk : mu (putC μ 43 (lsC x i q)) 43 2 (lsC x i q 2 - 1) = putC μ 43 (fu (lsC x i q) 2 (lsC x i q 2 - 1)) := by
        funext a b
        unfold mu putC fu
        by_cases ha : a = 43
        · subst ha
          by_cases hb : b = 2
          · subst hb
            rw [if_pos ⟨rfl, rfl⟩, if_pos rfl, if_pos rfl]
          · rw [if_neg (fun z => hb z.2), if_pos rfl, if_pos rfl, if_neg hb]
        · rw [if_neg (fun z => ha z.1), if_neg ha, if_neg ha]
      have dy : ∀ T : Nat → Int, okP T → M2_oneDay N 43 (putC μ 43 T) = some (dgone T, putC μ 43 (dayC T)) := by
        intro T hT
        rw [M2_oneDay_eq N 43 (by rw [putC_s]; exact hT), putC_s, putC_putC]
      by_cases b : x / 2 ^ i % 2 = 1
      · rw [if_pos (show ((x / 2 ^ i % 2 : Nat) : Int) = 1 by omega)]
        by_cases z : lsC x i q 2 ≤ 0
        · rw [if_pos z, dy _ ok, Option.bind_some]
          have e : lsC x (i + 1) q = dayC (lsC x i q) := by
            show dayC (lsQ (lsC x i q) _) = _
            unfold lsQ
            rw [if_neg (fun y => by have := y.2; omega)]
          rw [e] at nx
          exact nx (by omega) (by omega)
        · have okf : okP (fu (lsC x i q) 2 (lsC x i q 2 - 1)) := okP_has ok (by omega)
          rw [if_neg z, mk, dy _ okf, Option.bind_some]
          have e : lsC x (i + 1) q = dayC (fu (lsC x i q) 2 (lsC x i q 2 - 1)) := by
            show dayC (lsQ (lsC x i q) _) = _
            unfold lsQ
            rw [if_pos ⟨decide_eq_true b, by omega⟩]
          rw [e] at nx
          exact nx (by omega) (by omega)
      · rw [if_neg (show ¬ ((x / 2 ^ i % 2 : Nat) : Int) = 1 by omega), dy _ ok, Option.bind_some]
        have e : lsC x (i + 1) q = dayC (lsC x i q) := by
          show dayC (lsQ (lsC x i q) _) = _
          unfold lsQ
          rw [if_neg (fun y => b (of_decide_eq_true y.1))]
        rw [e] at nx
        exact nx (by omega) (by omega)
theorem M4_losing_eq (N x : Nat) (hN : 10 ≤ N) (hx : x < 256) {μ : mm} {p : Nat} (hp : p < 8) (h : okP (μ (10 + 2 + p))) (n : Nat) (hn : n ≤ 7) : ∃ T : Nat → Int, M4_throughLosing N (p : Int) (n : Int) (x : Int) μ = some (lsI x n (μ (10 + 2 + p)) 4 - μ (10 + 2 + p) 4, putC μ 43 T) := by
  have hT : okP (trialQ μ (10 + 2 + p) (μ (10 + 2 + p) 2)) := trialQ_ok h h.2.2.1
  refine ⟨lsC x n (trialQ μ (10 + 2 + p) (μ (10 + 2 + p) 2)), ?_⟩
  unfold M4_throughLosing
  rw [M1_at_eq N 10 p hp, Option.bind_some, if_pos (kdo (Or.inl rfl) hp), M2_takeFrom_eq N (by omega), Option.bind_some, tkP_putC, ← lsC_p trialQ_p x n 4 (by decide)]
  exact losing_loop N x hx hT (10 + 2 + p) n (by omega) hn N 0 (by omega) (by omega)
theorem power_loop (N : Nat) (a : Int) (n : Nat) (hn : n ≤ 100) (μ : mm) : ∀ k i : Nat, i ≤ n → n < i + k → L4_power_5 N k a (n : Int) (a ^ i) (i : Int) μ = some (a ^ n) := by
  intro k
  induction k with
  | zero => intro i h1 h2; omega
  | succ k ih =>
    intro i h1 h2
    rw [L4_power_5, if_pos (show inR (i : Int) ∧ inR (n : Int) by omega)]
    by_cases c : (n : Int) ≤ (i : Int)
    · rw [if_pos c, show i = n by omega]
    · rw [if_neg c]
      simp only [bnd]
      rw [← Int.pow_succ]
      exact ih (i + 1) (by omega) (by omega)
theorem M4_power_eq (N : Nat) (hN : 200 ≤ N) (a : Int) (n : Nat) (hn : n ≤ 100) (μ : mm) : M4_power N a (n : Int) μ = some (a ^ n) := by
  have := power_loop N a n hn μ N 0 (by omega) (by omega)
  rw [Int.pow_zero] at this
  exact this
theorem bsN_le (x : Nat) : ∀ i, bsN x i ≤ i := by
  intro i
  induction i with
  | zero => exact Nat.le_refl _
  | succ i ih =>
    show bsN x i + x / 2 ^ i % 2 ≤ i + 1
    omega
theorem bsN_all : ∀ n, n < 8 → ∀ x, x < 2 ^ n → bsN x 8 = bsN x n := by decide +kernel
end
section
def thL (q : Nat → Int) (n x : Nat) : Int := lsI x n q 4 - q 4
/-- the chances of one way: no slip on each day told by a place of x -/
def prN (a : Int) (x : Nat) : Nat → Int
  | 0 => 1
  | i + 1 => prN a x i * (if x / 2 ^ i % 2 = 1 then 1 else a)
theorem prN_eq (a : Int) (x : Nat) : ∀ i, prN a x i = a ^ (i - bsN x i) := by
  intro i
  induction i with
  | zero =>
    show (1 : Int) = a ^ (0 - 0)
    rw [Nat.sub_self, Int.pow_zero]
  | succ i ih =>
    have hb := bsN_le x i
    show prN a x i * (if x / 2 ^ i % 2 = 1 then 1 else a) = a ^ (i + 1 - (bsN x i + x / 2 ^ i % 2))
    rw [ih]
    by_cases c : x / 2 ^ i % 2 = 1
    · rw [if_pos c, c, Int.mul_one, show i + 1 - (bsN x i + 1) = i - bsN x i by omega]
    · rw [if_neg c, show x / 2 ^ i % 2 = 0 by omega, show i + 1 - (bsN x i + 0) = (i - bsN x i) + 1 by omega, Int.pow_succ]
theorem pow_in {a : Int} (ha : 0 ≤ a ∧ a ≤ 19) {m : Nat} (hm : m ≤ 7) : 0 ≤ a ^ m ∧ a ^ m ≤ 893871739 := by
  obtain ⟨b, rfl⟩ := Int.eq_ofNat_of_zero_le ha.1
  have h1 : b ^ m ≤ 19 ^ m := Nat.pow_le_pow_left (by omega) m
  have h2 : 19 ^ m ≤ 19 ^ 7 := Nat.pow_le_pow_right (by decide) hm
  have h3 : (19 : Nat) ^ 7 = 893871739 := by decide
  have e : ((b : Int)) ^ m = ((b ^ m : Nat) : Int) := (Int.natCast_pow b m).symm
  rw [e]
  omega
/-- all the ways that bring him through v times, of the first x -/
def wyN (q : Nat → Int) (n : Nat) (a v : Int) : Nat → Int
  | 0 => 0
  | x + 1 => wyN q n a v x + (if thL q n x < v then 0 else prN a x n)
theorem wyN_in (q : Nat → Int) {n : Nat} (hn : n ≤ 7) {a : Int} (ha : 0 ≤ a ∧ a ≤ 19) (v : Int) : ∀ x : Nat, 0 ≤ wyN q n a v x ∧ wyN q n a v x ≤ 893871739 * (x : Int) := by
  intro x
  induction x with
  | zero => exact ⟨Int.le_refl _, Int.le_refl _⟩
  | succ x ih =>
    have p : 0 ≤ prN a x n ∧ prN a x n ≤ 893871739 := by
      rw [prN_eq]
      exact pow_in ha (by omega)
    unfold wyN
    split <;> omega
theorem slip4 (N : Nat) (hN : 200 ≤ N) {μ : mm} {p : Nat} (hp : p < 8) (h : okP (μ (10 + 2 + p))) (n : Nat) (hn : n ≤ 7) {t v w : Int} (ht : 2 ≤ t ∧ t ≤ 20) (hv : 0 ≤ v ∧ v ≤ 9) (r : Int) (hr : ∀ ν : mm, M4_leastTerms N (wyN (μ (10 + 2 + p)) n (t - 1) v (2 ^ n)) (t ^ n) w ν = some r) :
    ∀ (k x : Nat) (ν : mm), x ≤ 2 ^ n → 2 ^ n < x + k → (∀ a, a ≠ 43 → ν a = μ a) → ∃ ν', L4_slip_99 N k (p : Int) (n : Int) t v w (wyN (μ (10 + 2 + p)) n (t - 1) v x) (x : Int) ν = some (r, ν') ∧ ∀ a, a ≠ 43 → ν' a = μ a := by
  have hP : 2 ^ n ≤ 2 ^ 7 := Nat.pow_le_pow_right (by decide) hn
  have h7 : (2 : Nat) ^ 7 = 128 := by decide
  have eP : (1 * 2 ^ ((n : Nat) : Int).toNat : Int) = ((2 ^ n : Nat) : Int) := by
    rw [Int.one_mul, Int.natCast_pow]
    rfl
  intro k
  induction k with
  | zero => intro x ν h1 h2; omega
  | succ k ih =>
    intro x ν h1 h2 hf
    rw [L4_slip_99, if_pos (show 0 ≤ (n : Int) ∧ (n : Int) < 32 by omega), eP, if_pos (show inR (x : Int) ∧ inR ((2 ^ n : Nat) : Int) by omega)]
    by_cases c : ((2 ^ n : Nat) : Int) ≤ (x : Int)
    · rw [if_pos c, if_pos (show inR t by omega), M4_power_eq N hN t n (by omega), Option.bind_some, show x = 2 ^ n by omega, hr ν, Option.bind_some]
      exact ⟨ν, rfl, hf⟩
    · have ec := hf (10 + 2 + p) (by omega)
      have hx : x < 2 ^ n := by omega
      have hb := bsN_le x n
      obtain ⟨T, e⟩ := M4_losing_eq N x (by omega) (by omega) (μ := ν) hp (by rw [ec]; exact h) n hn
      rw [ec] at e
      have hD := (lsI_ok h x n).2.2.2.2.1
      have h4 := h.2.2.2.2.1
      have ez : zpop (x : Int) = ((bsN x n : Nat) : Int) := by rw [zpop_all x (by omega), bsN_all n (by omega) x hx]
      have fr : ∀ a, a ≠ 43 → putC ν 43 T a = μ a := fun a h => (putC_row h).trans (hf a h)
      rw [if_neg c, e, Option.bind_some]
      dsimp only
      rw [if_pos (show inR (lsI x n (μ (10 + 2 + p)) 4 - μ (10 + 2 + p) 4) ∧ inR v by omega), if_pos (show inR (t - 1) by omega), M6_bits_eq N x (by omega), Option.bind_some, ez, show ((n : Int) - ((bsN x n : Nat) : Int)) = ((n - bsN x n : Nat) : Int) by omega, M4_power_eq N hN _ _ (by omega), Option.bind_some]
      simp only [J4_slip_139, bnd]
      obtain ⟨ν', e', f'⟩ := ih (x + 1) (putC ν 43 T) (by omega) (by omega) fr
      rw [show wyN (μ (10 + 2 + p)) n (t - 1) v (x + 1) = wyN (μ (10 + 2 + p)) n (t - 1) v x + (if lsI x n (μ (10 + 2 + p)) 4 - μ (10 + 2 + p) 4 < v then 0 else prN (t - 1) x n) from rfl] at e'
      by_cases d : lsI x n (μ (10 + 2 + p)) 4 - μ (10 + 2 + p) 4 < v
      · rw [if_pos d]
        rw [if_pos d, Int.add_zero] at e'
        exact ⟨ν', e', f'⟩
      · rw [if_neg d]
        rw [if_neg d, prN_eq] at e'
        exact ⟨ν', e', f'⟩
theorem total_loop (N : Nat) (n : Nat) (hn : n ≤ 7) {t : Int} (ht : 2 ≤ t ∧ t ≤ 20) (p v w x6 : Int) (μ : mm) : ∀ k i : Nat, i ≤ n → n < i + k → L5_slip_87 N k p (n : Int) t v w x6 (t ^ i) (i : Int) μ = L5_slip_109 N N p (n : Int) t v w x6 (t ^ n) 0 μ := by
  intro k
  induction k with
  | zero => intro i h1 h2; omega
  | succ k ih =>
    intro i h1 h2
    rw [L5_slip_87, if_pos (show inR (i : Int) ∧ inR (n : Int) by omega)]
    by_cases c : (n : Int) ≤ (i : Int)
    · rw [if_pos c, show i = n by omega]
    · rw [if_neg c, if_pos (show inR t by omega)]
      simp only [bnd]
      rw [← Int.pow_succ]
      exact ih (i + 1) (by omega) (by omega)
end
section
theorem okR_putP {ν : mm} {r p : Nat} {q : Nat → Int} (ok : okR ν r) (hq : okP q) : okR (putP ν r p q) r := by
  obtain ⟨o1, o2, o3, o4, o5⟩ := ok
  refine ⟨by rw [putP_lo (by decide)]; exact o1, by rw [putP_lo (by decide)]; exact o2, by rw [putP_lo (by decide)]; exact o3, by rw [putP_lo (by decide)]; exact o4, fun p' hp' => ?_⟩
  rw [putP_lo (by decide)] at hp'
  by_cases t : p' = p
  · subst t
    exact okP_congr hq (fun k hk => putP_at k hk)
  · exact okP_congr (o5 p' hp') (fun k hk => putP_ne (pq_at ν r p') t k hk)
theorem putP_row {ν : mm} {r p a : Nat} {q : Nat → Int} (h : a ≠ r) : putP ν r p q a = ν a := funext fun _ => putP_c h
theorem slip134 (N : Nat) (hN : 200 ≤ N) (rec : Int → Int → Int → Int → Int → Int → Int → Int → mm → Option (Int × mm)) {μ : mm} {p : Nat} (hp : p < 8) {q : Nat → Int} (hq : okP q) (h1 : at6 μ 1 p q) (n : Nat) (hn : n ≤ 7) {t v : Int} (ht : 2 ≤ t ∧ t ≤ 20) (hv : 0 ≤ v ∧ v ≤ 9) (w x6 x8 : Int) (x : Nat) (hx : x < 256) :
    ∀ (k i : Nat) (ν : mm), i ≤ n → n < i + k → (∀ a, a ≠ 2 → ν a = μ a) → okR ν 2 → (p : Int) < ν 2 0 → ν 2 1 ≤ 2000 + (i : Int) → at6 ν 2 p (lsI x i q) →
    ∃ ν', L5_slip_134 N rec k (p : Int) (n : Int) t v w x6 x8 (x : Int) (prN (t - 1) x i) (i : Int) ν = rec (p : Int) (n : Int) t v w (x6 + (if thL q n x < v then 0 else prN (t - 1) x n)) x8 ((x : Int) + 1) ν' ∧ ∀ a, a ≠ 2 → ν' a = μ a := by
  intro k
  induction k with
  | zero => intro i ν a1 a2; omega
  | succ k ih =>
    intro i ν a1 a2 hf ok hm hd h6
    have okI := lsI_ok hq x i
    rw [L5_slip_134, if_pos (show inR (i : Int) ∧ inR (n : Int) by omega)]
    by_cases c : (n : Int) ≤ (i : Int)
    · obtain rfl : i = n := by omega
      have h4 := okI.2.2.2.2.1
      have h4' := hq.2.2.2.2.1
      have e : M5_throughOf N 2 (p : Int) ν = some (thL q i x) := by
        unfold M5_throughOf thL
        rw [if_pos (ixg hp (by decide)), if_pos (ixg hp (by decide)), ix4, h6 4 (by decide), hf 1 (by decide), h1 4 (by decide)]
      have ei : inR (thL q i x) := by unfold thL; omega
      rw [if_pos c, e, Option.bind_some, if_pos ⟨ei, by omega⟩]
      simp only [J5_slip_235, bnd]
      by_cases d : thL q i x < v
      · rw [if_pos d, if_pos d]
        exact ⟨ν, rfl, hf⟩
      · rw [if_neg d, if_neg d]
        exact ⟨ν, rfl, hf⟩
    · have day : ∀ Q : Nat → Int, okP Q → Q = lsQ (lsI x i q) (decide (x / 2 ^ i % 2 = 1)) → ∃ ν', (M5_day N 2 (putP ν 2 p Q)).bind (fun (q29 : mm) => L5_slip_134 N rec k (p : Int) (n : Int) t v w x6 x8 (x : Int) (prN (t - 1) x i * (if x / 2 ^ i % 2 = 1 then 1 else (t - 1))) ((i : Int) + 1) q29) = rec (p : Int) (n : Int) t v w (x6 + (if thL q n x < v then 0 else prN (t - 1) x n)) x8 ((x : Int) + 1) ν' ∧ ∀ a, a ≠ 2 → ν' a = μ a := by
        intro Q hQ eQ
        have okp : okR (putP ν 2 p Q) 2 := okR_putP ok hQ
        have e0 : putP ν 2 p Q 2 0 = ν 2 0 := putP_lo (by decide)
        have e1 : putP ν 2 p Q 2 1 = ν 2 1 := putP_lo (by decide)
        rw [M5_day_eq N 2 (by omega) okp, Option.bind_some]
        have a6 : at6 (dayR 2 (putP ν 2 p Q)) 2 p (lsI x (i + 1) q) := by
          show at6 (dayR 2 (putP ν 2 p Q)) 2 p (dayP (lsQ (lsI x i q) (decide (x / 2 ^ i % 2 = 1))))
          rw [← eQ]
          exact dayR_at (by rw [e0]; exact hm) putP_at
        exact ih (i + 1) (dayR 2 (putP ν 2 p Q)) (by omega) (by omega) (fun a h => by rw [dayR_row h, putP_row h, hf a h]) (dayR_ok okp (by rw [e1]; omega)) (by rw [show dayR 2 (putP ν 2 p Q) 2 0 = putP ν 2 p Q 2 0 from dayN_many, e0]; exact hm) (by rw [show dayR 2 (putP ν 2 p Q) 2 1 = putP ν 2 p Q 2 1 + 1 from dayN_day, e1]; omega) a6
      have h2 := okI.2.2.1
      rw [if_neg c, M5_has_eq N x i hx (by omega), Option.bind_some]
      simp only [J5_slip_160, J5_slip_200, bnd]
      rw [M5_has_eq N x i hx (by omega), Option.bind_some]
      by_cases b : x / 2 ^ i % 2 = 1
      · rw [if_pos b, if_pos (by decide), if_neg (by decide), Option.bind_some, if_pos (by decide), if_neg (by decide), if_pos (ixg hp (by decide)), ix2, h6 2 (by decide), if_pos (show inR (lsI x i q 2) by omega)]
        by_cases z : lsI x i q 2 ≤ 0
        · obtain ⟨ν', e, f⟩ := day (lsI x i q) okI (by unfold lsQ; rw [if_neg (fun y => by have := y.2; omega)])
          rw [putP_of h6, if_pos b] at e
          rw [if_pos z]
          exact ⟨ν', e, f⟩
        · have hQ : okP (fu (lsI x i q) 2 (lsI x i q 2 - 1)) := okP_has okI (by omega)
          obtain ⟨ν', e, f⟩ := day (fu (lsI x i q) 2 (lsI x i q 2 - 1)) hQ (by unfold lsQ; rw [if_pos ⟨decide_eq_true b, by omega⟩])
          rw [← putP_mu (by decide), putP_of h6, if_pos b] at e
          rw [if_neg z, if_pos (ixg hp (by decide)), if_pos (ixg hp (by decide))]
          exact ⟨ν', e, f⟩
      · obtain ⟨ν', e, f⟩ := day (lsI x i q) okI (by unfold lsQ; rw [if_neg (fun y => b (of_decide_eq_true y.1))])
        rw [putP_of h6, if_neg b] at e
        rw [if_neg b, if_pos (by decide), if_pos rfl, if_pos (show inR (t - 1) by omega), if_pos (by decide), if_pos rfl]
        exact ⟨ν', e, f⟩
theorem slip5 (N : Nat) (hN : 200 ≤ N) {μ : mm} {p : Nat} (hp : (p : Int) < μ 1 0) (ok : okR μ 1) (hd : μ 1 1 ≤ 999) {q : Nat → Int} (h1 : at6 μ 1 p q) (n : Nat) (hn : n ≤ 7) {t v w : Int} (ht : 2 ≤ t ∧ t ≤ 20) (hv : 0 ≤ v ∧ v ≤ 9) (r : Int) (hr : ∀ ν : mm, M5_partOf N (wyN q n (t - 1) v (2 ^ n)) (t ^ n) w ν = some r) :
    ∀ (k x : Nat) (ν : mm), x ≤ 2 ^ n → 2 ^ n < x + k → (∀ a, a ≠ 2 → ν a = μ a) → ∃ ν', L5_slip_109 N k (p : Int) (n : Int) t v w (wyN q n (t - 1) v x) (t ^ n) (x : Int) ν = some (r, ν') ∧ ∀ a, a ≠ 2 → ν' a = μ a := by
  have hm := ok.1
  have hp8 : p < 8 := by omega
  have hq : okP q := okR_at ok hp h1
  have hP : 2 ^ n ≤ 2 ^ 7 := Nat.pow_le_pow_right (by decide) hn
  have h7 : (2 : Nat) ^ 7 = 128 := by decide
  have eP : (1 * 2 ^ ((n : Nat) : Int).toNat : Int) = ((2 ^ n : Nat) : Int) := by
    rw [Int.one_mul, Int.natCast_pow]
    rfl
  intro k
  induction k with
  | zero => intro x ν h1 h2; omega
  | succ k ih =>
    intro x ν h1' h2 hf
    rw [L5_slip_109, if_pos (show 0 ≤ (n : Int) ∧ (n : Int) < 32 by omega), eP, if_pos (show inR (x : Int) ∧ inR ((2 ^ n : Nat) : Int) by omega)]
    by_cases c : ((2 ^ n : Nat) : Int) ≤ (x : Int)
    · rw [if_pos c, show x = 2 ^ n by omega, hr ν, Option.bind_some]
      exact ⟨ν, rfl, hf⟩
    · have e1 := hf 1 (by decide)
      have okc : okR (cp 1 2 ν) 2 := cp_ok (okR_congr ok e1)
      rw [if_neg c, M5_copies_eq N 1 2 (by omega) (by decide), Option.bind_some]
      obtain ⟨ν1, e, f⟩ := slip134 N hN (L5_slip_109 N k) hp8 hq h1 n hn ht hv w (wyN q n (t - 1) v x) (t ^ n) x (by omega) N 0 (cp 1 2 ν) (by omega) (by omega) (fun a h => by rw [cp_row h, hf a h]) okc (by rw [cp_to (by decide), e1]; exact hp) (by rw [cp_to (by decide), e1]; omega) (cp_at hp8 (by intro k hk; rw [e1]; exact h1 k hk))
      obtain ⟨ν', e', f'⟩ := ih (x + 1) ν1 (by omega) (by omega) f
      exact ⟨ν', e.trans e', f'⟩
end
section
theorem op_slip (N : Nat) (hN : 1100 ≤ N) {μ : mm} (R : Rel μ) {p n t v w : Int} (hp : inR p) (hn : inR n) (ht : inR t) (hv : inR v) (hw : inR w) : Op (M4_slip N p n t v w) (M5_slip N p n t v w) μ := by
  obtain ⟨⟨a1, a2, a3⟩, -⟩ := id R
  have hm := a2.1
  have hu := unkZ_in μ p
  have hot := othZ_in w 1
  have J47 : ∀ lo hi : Int, -6 ≤ lo ∧ lo ≤ 0 → -6 ≤ hi ∧ hi ≤ 0 → J4_slip_47 N p n t v w lo hi μ = J4_slip_76 N p n t v w (if fstZ (unkZ μ p) lo hi = 0 then othZ w 1 else fstZ (unkZ μ p) lo hi) μ := by
    intro lo hi hlo hhi
    have hf := fstZ_in hu hlo hhi
    simp only [J4_slip_47]
    rw [M4_unknown_eq N hp a1 a2, Option.bind_some, M4_firstOf_eq N hu hlo, Option.bind_some, if_pos (show inR (fstZ (unkZ μ p) lo hi) by omega), M4_other_eq N hw (by decide), Option.bind_some]
    split <;> rfl
  have J20 : ∀ lo : Int, J4_slip_20 N p n t v w lo μ = J4_slip_47 N p n t v w lo (if 7 < n ∨ 20 < t ∨ 9 < v then -6 else 0) μ := by
    intro lo
    simp only [J4_slip_20, J4_slip_41]
    rw [if_pos hn, if_pos ht, if_pos hv]
    by_cases c1 : 7 < n
    · rw [if_pos c1, if_pos (Or.inl c1)]
    · rw [if_neg c1]
      by_cases c2 : 20 < t
      · rw [if_pos c2, if_pos (Or.inr (Or.inl c2))]
      · rw [if_neg c2]
        by_cases c3 : v ≤ 9
        · rw [if_pos c3, if_neg (by omega)]
        · rw [if_neg c3, if_pos (by omega)]
  have e4 : M4_slip N p n t v w μ = J4_slip_20 N p n t v w (if n < 0 ∨ v < 0 ∨ t < 2 then -4 else 0) μ := by
    simp only [M4_slip, J4_slip_14]
    rw [if_pos hn, if_pos hv, if_pos ht]
    by_cases c1 : n < 0
    · rw [if_pos c1, if_pos (Or.inl c1)]
    · rw [if_neg c1]
      by_cases c2 : v < 0
      · rw [if_pos c2, if_pos (Or.inr (Or.inl c2))]
      · rw [if_neg c2]
        by_cases c3 : 2 ≤ t
        · rw [if_pos c3, if_neg (by omega)]
        · rw [if_neg c3, if_pos (by omega)]
  rw [J20, J47 _ _ (by split <;> decide) (by split <;> decide)] at e4
  have bad : ∀ c : Int, -6 ≤ c ∧ c ≤ -1 → J4_slip_76 N p n t v w c μ = some (4000000000000000000 - c, r4 c μ) := by
    intro c hc
    simp only [J4_slip_76]
    rw [if_pos (show inR c by omega), if_neg (show ¬ c = 0 by omega), rfw4 N (by omega)]
  by_cases k : unkZ μ p = 0
  · have kk := unkZ_0 k
    obtain ⟨i, rfl⟩ := Int.eq_ofNat_of_zero_le kk.1
    have hi : i < 8 := by omega
    by_cases lo : n < 0 ∨ v < 0 ∨ t < 2
    · rw [if_pos lo, fst2 k (by decide), if_neg (by decide), bad (-4) (by decide)] at e4
      refine Op_wide N R (c := -4) (by decide) e4 (fun ν hν => ?_)
      have r1 : ν 1 = μ 1 := by rw [hν]; exact r4_c (by decide)
      simp only [M5_slip, J5_slip_28]
      rw [M5_isOne_eq N hp (okR_congr a2 r1), Option.bind_some, r1, if_pos kk, if_pos (by decide), if_neg (by decide), if_pos hn, if_pos hv, if_pos ht, noWide_eq N (by decide)]
      by_cases c1 : n < 0
      · rw [if_pos c1]
      · rw [if_neg c1]
        by_cases c2 : v < 0
        · rw [if_pos c2]
        · rw [if_neg c2, if_neg (by omega)]
    · rw [if_neg lo] at e4
      by_cases hi' : 7 < n ∨ 20 < t ∨ 9 < v
      · rw [if_pos hi', fst3 k rfl, if_neg (by decide), bad (-6) (by decide)] at e4
        refine Op_wide N R (c := -6) (by decide) e4 (fun ν hν => ?_)
        have r1 : ν 1 = μ 1 := by rw [hν]; exact r4_c (by decide)
        simp only [M5_slip, J5_slip_54]
        rw [M5_isOne_eq N hp (okR_congr a2 r1), Option.bind_some, r1, if_pos kk, if_pos (by decide), if_neg (by decide), if_pos hn, if_neg (show ¬ n < 0 by omega), if_pos hv, if_neg (show ¬ v < 0 by omega), if_pos ht, if_pos (show 2 ≤ t by omega), if_pos hn, if_pos ht, if_pos hv, noWide_eq N (by decide)]
        by_cases c1 : 7 < n
        · rw [if_pos c1]
        · rw [if_neg c1]
          by_cases c2 : 20 < t
          · rw [if_pos c2]
          · rw [if_neg c2, if_neg (by omega)]
      · rw [if_neg hi', fst3 k rfl, if_pos rfl] at e4
        have g5 : ∀ ν : mm, ν 1 = μ 1 → M5_slip N (i : Int) n t v w ν = ((M5_isIn N w 0 1 ν).bind fun (q11 : Int) => if inR q11 then (if q11 = 0 then ((M5_noWide N (-2) ν).bind fun (q43 : (Int × mm)) => some (q43.1, q43.2)) else (L5_slip_87 N N (i : Int) n t v w 0 1 0 ν)) else none) := by
          intro ν r1
          simp only [M5_slip, J5_slip_54]
          rw [M5_isOne_eq N hp (okR_congr a2 r1), Option.bind_some, r1, if_pos kk, if_pos (by decide), if_neg (by decide), if_pos hn, if_neg (show ¬ n < 0 by omega), if_pos hv, if_neg (show ¬ v < 0 by omega), if_pos ht, if_pos (show 2 ≤ t by omega), if_pos hn, if_neg (show ¬ 7 < n by omega), if_pos ht, if_neg (show ¬ 20 < t by omega), if_pos hv, if_pos (show v ≤ 9 by omega)]
        by_cases o : othZ w 1 = 0
        · have oo := othZ_0 o
          obtain ⟨j, rfl⟩ := Int.eq_ofNat_of_zero_le (show 0 ≤ n by omega)
          have hj : j ≤ 7 := by omega
          have hq := offP a1 a2 kk.2
          have h6 := a1.2.2.2.2 i kk.2
          have hP : 2 ^ j ≤ 2 ^ 7 := Nat.pow_le_pow_right (by decide) hj
          have h7 : (2 : Nat) ^ 7 = 128 := by decide
          have W := wyN_in (μ (10 + 2 + i)) hj (a := t - 1) (by omega) v (2 ^ j)
          have hT : 0 < t ^ j ∧ t ^ j < 1099511627776 := by
            obtain ⟨b, rfl⟩ := Int.eq_ofNat_of_zero_le (show 0 ≤ t by omega)
            have h1 : b ^ j ≤ 20 ^ j := Nat.pow_le_pow_left (by omega) j
            have h2 : 20 ^ j ≤ 20 ^ 7 := Nat.pow_le_pow_right (by decide) hj
            have h3 : (20 : Nat) ^ 7 = 1280000000 := by decide
            have h4 : 0 < b ^ j := Nat.pow_pos (by omega)
            have e : ((b : Int)) ^ j = ((b ^ j : Nat) : Int) := (Int.natCast_pow b j).symm
            rw [e]
            omega
          obtain ⟨r, t4, t5⟩ := terms_eq N (by omega) (a := wyN (μ (10 + 2 + i)) j (t - 1) v (2 ^ j)) (b := t ^ j) (w := w) (by omega) (Or.inl hT) (by omega) oo μ μ
          have k4 : ∀ ν : mm, M4_leastTerms N (wyN (μ (10 + 2 + i)) j (t - 1) v (2 ^ j)) (t ^ j) w ν = some r := by
            intro ν
            obtain ⟨r', u4, u5⟩ := terms_eq N (by omega) (a := wyN (μ (10 + 2 + i)) j (t - 1) v (2 ^ j)) (b := t ^ j) (w := w) (by omega) (Or.inl hT) (by omega) oo ν μ
            rw [u4, ← u5, t5]
          have k5 : ∀ ν : mm, M5_partOf N (wyN (μ (10 + 2 + i)) j (t - 1) v (2 ^ j)) (t ^ j) w ν = some r := by
            intro ν
            obtain ⟨r', u4, u5⟩ := terms_eq N (by omega) (a := wyN (μ (10 + 2 + i)) j (t - 1) v (2 ^ j)) (b := t ^ j) (w := w) (by omega) (Or.inl hT) (by omega) oo μ ν
            rw [u5, ← u4, t4]
          obtain ⟨μ1, f4, g4⟩ := slip4 N (by omega) hi hq j hj (t := t) (v := v) (w := w) (by omega) (by omega) r k4 N 0 μ (by omega) (by omega) (fun _ _ => rfl)
          have r1 : μ1 1 = μ 1 := g4 1 (by decide)
          obtain ⟨μ2, f5, g5'⟩ := slip5 N (by omega) (μ := μ1) (p := i) (by rw [r1]; exact kk.2) (okR_congr a2 r1) (by rw [r1]; exact a3) (q := μ (10 + 2 + i)) (by intro k hk; rw [r1]; exact h6 k hk) j hj (t := t) (v := v) (w := w) (by omega) (by omega) r k5 N 0 μ1 (by omega) (by omega) (fun _ _ => rfl)
          rw [show ((0 : Nat) : Int) = 0 from rfl] at f4 f5
          refine ⟨r, μ1, μ2, ?_, ?_, Rel_m R (fun a h43 h2 _ => (g5' a h2).trans (g4 a h43))⟩
          · rw [e4, o]
            simp only [J4_slip_76]
            rw [if_pos (by decide), if_pos trivial]
            exact f4
          · rw [g5 μ1 r1, M5_isIn_eq N hw (by decide) (by decide), Option.bind_some, if_pos oo, if_pos (by decide), if_neg (by decide)]
            have := total_loop N j hj (t := t) (by omega) (i : Int) v w 0 μ1 N 0 (by omega) (by omega)
            rw [Int.pow_zero, show ((0 : Nat) : Int) = 0 from rfl] at this
            rw [this]
            exact f5
        · obtain ⟨o1, o2⟩ := oth_no o
          rw [o1, bad (-2) (by decide)] at e4
          refine Op_wide N R (c := -2) (by decide) e4 (fun ν hν => ?_)
          have r1 : ν 1 = μ 1 := by rw [hν]; exact r4_c (by decide)
          rw [g5 ν r1, M5_isIn_eq N hw (by decide) (by decide), Option.bind_some, if_neg o2, if_pos (by decide), if_pos rfl, noWide_eq N (by decide)]
  · obtain ⟨k1, k2⟩ := unkZ_no k
    rw [fst1 k, if_neg k, k1, bad (-1) (by decide)] at e4
    refine Op_wide N R (c := -1) (by decide) e4 (fun ν hν => ?_)
    have r1 : ν 1 = μ 1 := by rw [hν]; exact r4_c (by decide)
    simp only [M5_slip]
    rw [M5_isOne_eq N hp (okR_congr a2 r1), Option.bind_some, r1, if_neg k2, if_pos (by decide), if_pos rfl, noWide_eq N (by decide)]
end
section
/-! lots -/
def nxS (s : Int) : Int := s * 1664525 + 1013904223
def drS (s : Int) : Int := nxS s % 2147483648 / 256 % 30
theorem drS_in (s : Int) : 0 ≤ drS s ∧ drS s ≤ 29 := by unfold drS; omega
theorem hasC_X {o r p : Nat} {ξ ν : mm} (v : Int) (h : relX o r ξ ν) : relX o r (mu ξ (o + 2 + p) 2 v) (mu ν r (4 + 6 * p + 2) v) := by
  obtain ⟨h1, h2, h3, h4, h5⟩ := h
  refine ⟨by rw [mu_c (by omega), mu_j (by omega)]; exact h1, by rw [mu_c (by omega), mu_j (by omega)]; exact h2, by rw [mu_c (by omega), mu_j (by omega)]; exact h3, by rw [mu_c (by omega), mu_j (by omega)]; exact h4, fun p' hp' k hk => ?_⟩
  rw [mu_j (by omega)] at hp'
  have a := h5 p' hp' k hk
  unfold mu
  by_cases c : p' = p ∧ k = 2
  · obtain ⟨rfl, rfl⟩ := c
    rw [if_pos ⟨rfl, rfl⟩, if_pos ⟨rfl, rfl⟩]
  · rw [if_neg (by omega), if_neg (by omega)]
    exact a
theorem okR_hasR {ν : mm} {r p : Nat} {v : Int} (ok : okR ν r) (hv : 0 ≤ v ∧ v ≤ 99) : okR (mu ν r (4 + 6 * p + 2) v) r := by
  obtain ⟨o1, o2, o3, o4, o5⟩ := ok
  refine ⟨by rw [mu_j (by omega)]; exact o1, by rw [mu_j (by omega)]; exact o2, by rw [mu_j (by omega)]; exact o3, by rw [mu_j (by omega)]; exact o4, fun p' hp' => ?_⟩
  rw [mu_j (by omega)] at hp'
  have hq := o5 p' hp'
  by_cases c : p' = p
  · subst c
    refine okP_congr (okP_has hq hv) (fun k hk => ?_)
    unfold pq fu mu
    by_cases d : k = 2
    · subst d
      rw [if_pos ⟨rfl, rfl⟩, if_pos rfl]
    · rw [if_neg (by omega), if_neg d]
  · exact okP_congr hq (fun k hk => by unfold pq; rw [mu_j (by omega)])
theorem okO_hasC {ξ : mm} {p : Nat} {v : Int} (ok : okO ξ 21) (hv : 0 ≤ v ∧ v ≤ 99) : okO (mu ξ (21 + 2 + p) 2 v) 21 := by
  obtain ⟨o1, o2, o3⟩ := ok
  refine ⟨by rw [mu_c (by omega)]; exact o1, by rw [mu_c (by omega)]; exact o2, fun p' hp' => ?_⟩
  rw [mu_c (by omega)] at hp'
  have hq := o3 p' hp'
  by_cases c : p' = p
  · subst c
    refine okP_congr (okP_has hq hv) (fun k hk => ?_)
    unfold fu mu
    by_cases d : k = 2
    · subst d
      rw [if_pos ⟨rfl, rfl⟩, if_pos rfl]
    · rw [if_neg (fun z => d z.2), if_neg d]
  · rw [mu_row (by omega)]
    exact hq
theorem lots_in (N : Nat) (hN : 200 ≤ N) {μ : mm} (a1 : relO 10 1 μ) (a2 : okR μ 1) (rec4 : Int → Int → Int → Int → Int → mm → Option (Int × mm)) (n sp : Int) {w : Int} (hw : inR w) : ∀ (k p : Nat) (s sum : Int) (ξ : mm), (p : Int) ≤ ξ 21 2 → ξ 21 2 < (p : Int) + k → ξ 21 2 = μ 1 0 → okO ξ 21 → (∀ a, a ≠ 21 → (a < 23 ∨ 31 ≤ a) → ξ a = μ a) →
    ∃ (s' D : Int) (ξ' : mm), L4_lots_59 N rec4 k n w s sum sp (p : Int) ξ = rec4 n w s' (sum + D) (sp + 1) ξ' ∧ (∀ a, a ≠ 21 → (a < 23 ∨ 31 ≤ a) → ξ' a = μ a) ∧
      ∀ (ν : mm) (rec : Int → Int → Int → Int → mm → Option (Int × mm)) (sum' : Int), relX 21 2 ξ ν → okR ν 2 → ν 1 = μ 1 → ν 0 12 = s → ν 2 1 ≤ 2000 → ∃ ν', L5_lots_72 N rec k n w sum' sp (p : Int) ν = rec n w (sum' + D) (sp + 1) ν' ∧ (∀ a, a ≠ 0 → a ≠ 2 → ν' a = ν a) ∧ (∀ j, j ≠ 12 → ν' 0 j = ν 0 j) ∧ ν' 0 12 = s' := by
  have h1m := a2.1
  intro k
  induction k with
  | zero => intro p s sum ξ h1 h2; omega
  | succ k ih =>
    intro p s sum ξ h1 h2 hpe ok hf
    have hm := ok.1
    by_cases c : ξ 21 2 ≤ (p : Int)
    · have okd := dysO_ok ok 20
      have e10 : ∀ a, a ≠ 21 → (a < 23 ∨ 31 ≤ a) → dysO 21 20 ξ a = μ a := fun a h1 h2 => (dysO_c ok h1 (by omega) 20).trans (hf a h1 h2)
      have dg := M1_daysGoBy_eq N (o := 21) (Or.inr (Or.inl rfl)) (by omega) ok 20 (by omega) (by omega)
      rw [show ((20 : Nat) : Int) = 20 from rfl] at dg
      have m10 : 0 ≤ dysO 21 20 ξ 10 2 ∧ dysO 21 20 ξ 10 2 ≤ 8 := by
        rw [e10 10 (by decide) (by omega), a1.1]
        exact h1m
      have x10 : ∀ j, j < 6 → sumN (fun p => dysO 21 20 ξ (10 + 2 + p) j) (dysO 21 20 ξ 10 2).toNat = sumN (fun p => μ 1 (4 + 6 * p + j)) (μ 1 0).toNat := by
        intro j hj
        rw [← sum_one a1 j hj, e10 10 (by decide) (by omega)]
        refine sumN_congr _ (fun i hi => ?_)
        rw [e10 (10 + 2 + i) (by have := a1.1; omega) (by have := a1.1; omega)]
      have g5 : ∀ (ν : mm) (rec : Int → Int → Int → Int → mm → Option (Int × mm)) (sum' : Int), relX 21 2 ξ ν → okR ν 2 → ν 1 = μ 1 → ν 2 1 ≤ 2000 → L5_lots_72 N rec (k + 1) n w sum' sp (p : Int) ν = rec n w (sum' + (if w = 0 then sumN (fun p => dysO 21 20 ξ (21 + 2 + p) 4) (dysO 21 20 ξ 21 2).toNat - sumN (fun p => μ 1 (4 + 6 * p + 4)) (μ 1 0).toNat else sumN (fun p => dysO 21 20 ξ (21 + 2 + p) 5) (dysO 21 20 ξ 21 2).toNat - sumN (fun p => μ 1 (4 + 6 * p + 5)) (μ 1 0).toNat)) (sp + 1) (days 2 20 ν) := by
        intro ν rec sum' X okν r1 hd
        have okd2 := days_ok okν 20 (by omega)
        have X20 := relX_days X okν 20 (by omega)
        have r1' : days 2 20 ν 1 = μ 1 := (funext fun b => days_c (by decide) 20).trans r1
        have ok1 : okR (days 2 20 ν) 1 := okR_congr a2 r1'
        have do5 := M5_daysOn_eq N 2 (by omega) okν 20 (by omega) (by omega)
        rw [show ((20 : Nat) : Int) = 20 from rfl] at do5
        have b4 := M5_allOf_eq N 2 4 (by decide) (by omega) (μ := days 2 20 ν) okd2.1
        have b5 := M5_allOf_eq N 2 5 (by decide) (by omega) (μ := days 2 20 ν) okd2.1
        have c4 := M5_allOf_eq N 1 4 (by decide) (by omega) (μ := days 2 20 ν) ok1.1
        have c5 := M5_allOf_eq N 1 5 (by decide) (by omega) (μ := days 2 20 ν) ok1.1
        rw [show ((4 : Nat) : Int) = 4 from rfl] at b4 c4
        rw [show ((5 : Nat) : Int) = 5 from rfl] at b5 c5
        rw [← relX_sum X20 4 (by decide)] at b4
        rw [← relX_sum X20 5 (by decide)] at b5
        rw [r1'] at c4 c5
        rw [L5_lots_72, r1, if_pos (show inR (p : Int) ∧ inR (μ 1 0) by omega), if_pos (show μ 1 0 ≤ (p : Int) by omega), do5, Option.bind_some, if_pos hw]
        simp only [J5_lots_130, J5_lots_146, bnd]
        by_cases w0 : w = 0
        · rw [if_pos w0, if_pos w0, b4, Option.bind_some, if_pos hw, if_pos w0, c4, Option.bind_some]
        · rw [if_neg w0, if_neg w0, b5, Option.bind_some, if_pos hw, if_neg w0, c5, Option.bind_some]
      refine ⟨s, if w = 0 then sumN (fun p => dysO 21 20 ξ (21 + 2 + p) 4) (dysO 21 20 ξ 21 2).toNat - sumN (fun p => μ 1 (4 + 6 * p + 4)) (μ 1 0).toNat else sumN (fun p => dysO 21 20 ξ (21 + 2 + p) 5) (dysO 21 20 ξ 21 2).toNat - sumN (fun p => μ 1 (4 + 6 * p + 5)) (μ 1 0).toNat, dysO 21 20 ξ, ?_, e10, fun ν rec sum' X okν r1 hs hd => ⟨days 2 20 ν, g5 ν rec sum' X okν r1 hd, fun a h0 h2 => funext fun b => days_c h2 20, fun j _ => days_c (by decide) 20, (days_c (by decide) 20).trans hs⟩⟩
      rw [L4_lots_59, if_pos (show inR (p : Int) ∧ inR (ξ 21 2) by omega), if_pos c, dg, Option.bind_some, if_pos hw]
      simp only [J4_lots_159, bnd]
      by_cases w0 : w = 0
      · rw [if_pos w0, if_pos w0, M1_allThrough_eq N (Or.inr (Or.inl rfl)) (by omega) okd.1, Option.bind_some, M1_allThrough_eq N (Or.inl rfl) (by omega) m10, Option.bind_some, x10 4 (by decide)]
      · rw [if_neg w0, if_neg w0, M1_allShort_eq N (Or.inr (Or.inl rfl)) (by omega) okd.1, Option.bind_some, M1_allShort_eq N (Or.inl rfl) (by omega) m10, Option.bind_some, x10 5 (by decide)]
    · have hp8 : p < 8 := by omega
      have hd := drS_in s
      obtain ⟨s', D, ξ', e, f, G⟩ := ih (p + 1) (nxS s) sum (mu ξ (21 + 2 + p) 2 (drS s)) (by rw [mu_c (by omega)]; omega) (by rw [mu_c (by omega)]; omega) (by rw [mu_c (by omega)]; exact hpe) (okO_hasC ok (by omega)) (fun a h1 h2 => by rw [mu_row (by omega), hf a h1 h2])
      refine ⟨s', D, ξ', ?_, f, fun ν rec sum' X okν r1 hs hdy => ?_⟩
      · rw [L4_lots_59, if_pos (show inR (p : Int) ∧ inR (ξ 21 2) by omega), if_neg c]
        simp only [bnd]
        rw [M1_at_eq N 21 p hp8, Option.bind_some, if_pos (kdO (Or.inr (Or.inl rfl)) hp8), if_pos (show 0 ≤ ((s * 1664525) + 1013904223) % 2147483648 ∧ inR (((s * 1664525) + 1013904223) % 2147483648) by omega), if_pos (show 0 ≤ (((s * 1664525) + 1013904223) % 2147483648) / 256 ∧ inR ((((s * 1664525) + 1013904223) % 2147483648) / 256) by omega)]
        exact e
      · have e2r : ∀ b, mu ν 0 12 (nxS s) 2 b = ν 2 b := fun b => mu_c (by decide)
        have X1 : relX 21 2 ξ (mu ν 0 12 (nxS s)) := relX_congr X okν.1.2 rfl (fun _ _ => rfl) (fun j _ => e2r j)
        have okν1 : okR (mu ν 0 12 (nxS s)) 2 := okR_row okν (fun j _ => e2r j)
        obtain ⟨ν', e', f', g', h'⟩ := G (mu (mu ν 0 12 (nxS s)) 2 (4 + 6 * p + 2) (drS s)) rec sum' (hasC_X (drS s) X1) (okR_hasR okν1 (by omega)) (by rw [mu_row (by decide), mu_row (by decide), r1]) (by rw [mu_c (by decide), mu_s]) (by rw [mu_j (by omega), e2r]; exact hdy)
        refine ⟨ν', ?_, fun a h0 h2 => by rw [f' a h0 h2, mu_row h2, mu_row h0], fun j hj => by rw [g' j hj, mu_c (by decide), mu_j hj], h'⟩
        have eD : M5_drawn N 30 ν = some (drS s, mu ν 0 12 (nxS s)) := by
          simp only [M5_drawn, bnd, mu_s, hs]
          rw [if_pos (show 0 ≤ ((s * 1664525) + 1013904223) % 2147483648 ∧ inR (((s * 1664525) + 1013904223) % 2147483648) by omega), if_pos (show 0 ≤ (((s * 1664525) + 1013904223) % 2147483648) / 256 ∧ (0 : Int) < 30 ∧ inR ((((s * 1664525) + 1013904223) % 2147483648) / 256) ∧ inR 30 by omega)]
          rfl
        rw [L5_lots_72, r1, if_pos (show inR (p : Int) ∧ inR (μ 1 0) by omega), if_neg (show ¬ μ 1 0 ≤ (p : Int) by omega), eD, Option.bind_some]
        simp only [bnd]
        rw [if_pos (ixg hp8 (by decide)), ix2]
        exact e'
theorem lots_loop (N : Nat) (hN : 200 ≤ N) {μ : mm} (a1 : relO 10 1 μ) (a2 : okR μ 1) (a3 : μ 1 1 ≤ 999) (n : Nat) (hn : n ≤ 20) {w : Int} (hw : inR w) : ∀ (k i : Nat) (s sum : Int) (ξ : mm), i ≤ n → n < i + k → (∀ a, a ≠ 21 → (a < 23 ∨ 31 ≤ a) → ξ a = μ a) →
    ∃ (r : Int) (ξ' : mm), L4_lots_39 N k (n : Int) w s sum (i : Int) ξ = some (r, ξ') ∧ (∀ a, a ≠ 21 → (a < 23 ∨ 31 ≤ a) → ξ' a = μ a) ∧
      ∀ ν : mm, ν 1 = μ 1 → ν 0 12 = s → ∃ ν', L5_lots_52 N k (n : Int) w sum (i : Int) ν = some (r, ν') ∧ (∀ a, a ≠ 0 → a ≠ 2 → ν' a = ν a) ∧ (∀ j, j ≠ 12 → ν' 0 j = ν 0 j) := by
  have h1m := a2.1
  intro k
  induction k with
  | zero => intro i s sum ξ h1 h2; omega
  | succ k ih =>
    intro i s sum ξ h1 h2 hf
    by_cases c : (n : Int) ≤ (i : Int)
    · refine ⟨sum, ξ, ?_, hf, fun ν _ _ => ⟨ν, ?_, fun _ _ _ => rfl, fun _ _ => rfl⟩⟩
      · rw [L4_lots_39, if_pos (show inR (i : Int) ∧ inR (n : Int) by omega), if_pos c]
      · rw [L5_lots_52, if_pos (show inR (i : Int) ∧ inR (n : Int) by omega), if_pos c]
    · have b1 : relO 10 1 ξ := relO_congr a1 (hf 10 (by decide) (by omega)) (hf 1 (by decide) (by omega)) (fun p hp => hf _ (by omega) (by omega)) h1m.2
      have b2 : okR ξ 1 := okR_congr a2 (hf 1 (by decide) (by omega))
      have b3 : ξ 1 1 ≤ 999 := by rw [hf 1 (by decide) (by omega)]; exact a3
      have fm : ∀ a, a ≠ 21 → (a < 23 ∨ 31 ≤ a) → mindT ξ a = μ a := fun a h1 h2 => (mindT_c b1 b2 h1 h2).trans (hf a h1 h2)
      have em : mindT ξ 21 2 = μ 1 0 := by rw [(mindT_X b1 b2).1, hf 1 (by decide) (by omega)]
      have okm := (mind_days b1 b2 b3 (μ' := ξ) rfl 0 (by omega)).2.2
      obtain ⟨s', D, ξ1, e, f, G⟩ := lots_in N hN a1 a2 (L4_lots_39 N k) (n : Int) (i : Int) hw N 0 s sum (mindT ξ) (by rw [em]; omega) (by rw [em]; omega) em okm fm
      obtain ⟨r, ξ2, e2, f2, G2⟩ := ih (i + 1) s' (sum + D) ξ1 (by omega) (by omega) f
      refine ⟨r, ξ2, ?_, f2, fun ν r1 hs => ?_⟩
      · rw [L4_lots_39, if_pos (show inR (i : Int) ∧ inR (n : Int) by omega), if_neg c, mind_eq N (by omega) b1 b2, Option.bind_some]
        exact e.trans e2
      · have r1' : ν 1 = ξ 1 := by rw [r1, hf 1 (by decide) (by omega)]
        obtain ⟨X, okX, -⟩ := mind_days b1 b2 b3 r1' 0 (by omega)
        obtain ⟨ν1, e5, f5, g5, h5⟩ := G (cp 1 2 ν) (L5_lots_52 N k) sum X okX (by rw [cp_row (by decide), r1]) (by rw [cp_c (by decide)]; exact hs) (by rw [cp_to (by decide), r1]; omega)
        obtain ⟨ν2, e6, f6, g6⟩ := G2 ν1 (by rw [f5 1 (by decide) (by decide), cp_row (by decide), r1]) h5
        refine ⟨ν2, ?_, fun a h0 h2 => by rw [f6 a h0 h2, f5 a h0 h2, cp_row h2], fun j hj => by rw [g6 j hj, g5 j hj, cp_c (by decide)]⟩
        rw [L5_lots_52, if_pos (show inR (i : Int) ∧ inR (n : Int) by omega), if_neg c, M5_copies_eq N 1 2 (by omega) (by decide), Option.bind_some]
        exact e5.trans e6
theorem op_lots (N : Nat) (hN : 200 ≤ N) {μ : mm} (R : Rel μ) {n z w : Int} (hn : inR n) (hw : inR w) : Op (M4_lots N n z w) (M5_lots N n z w) μ := by
  obtain ⟨⟨a1, a2, a3⟩, -⟩ := id R
  have hm := a2.1
  have ho := outZ_in n 1 20
  have ht := othZ_in w 1
  by_cases o : outZ n 1 20 = 0
  · have oo := outZ_0 o
    by_cases t : othZ w 1 = 0
    · have tt := othZ_0 t
      obtain ⟨j, rfl⟩ := Int.eq_ofNat_of_zero_le (show 0 ≤ n by omega)
      obtain ⟨r, ξ', e4, f4, G⟩ := lots_loop N hN a1 a2 a3 j (by omega) hw N 0 z 0 μ (by omega) (by omega) (fun _ _ _ => rfl)
      obtain ⟨ν', e5, f5, g5⟩ := G (mu ξ' 0 12 z) (by rw [mu_row (by decide), f4 1 (by decide) (by omega)]) mu_s
      rw [show ((0 : Nat) : Int) = 0 from rfl] at e4 e5
      refine ⟨r, ξ', ν', ?_, ?_, ?_⟩
      · simp only [M4_lots]
        rw [M4_outside_eq N hn (by decide) (by decide), Option.bind_some, M4_other_eq N hw (by decide), Option.bind_some, M4_firstOf_eq N ho ht, Option.bind_some, fst0 o t, if_pos (by decide), if_pos rfl]
        exact e4
      · simp only [M5_lots, bnd]
        rw [if_pos hn, if_pos (show 1 ≤ (j : Int) by omega), if_pos hn, if_pos (show (j : Int) ≤ 20 by omega), M5_isIn_eq N hw (by decide) (by decide), Option.bind_some, if_pos tt, if_pos (by decide), if_neg (by decide)]
        exact e5
      · refine Rel_scr R (fun a ha h0 => ?_) (fun i _ h12 => ?_)
        · have := scr_ne ha
          rw [f5 a h0 (by omega), mu_row h0, f4 a (by omega) (by omega)]
        · rw [g5 i h12, mu_j h12, f4 0 (by decide) (by omega)]
    · obtain ⟨t1, t2⟩ := oth_no t
      refine Op_ref N R (c := -2) (by decide) ?_ (fun ν _ => ?_)
      · simp only [M4_lots]
        rw [M4_outside_eq N hn (by decide) (by decide), Option.bind_some, M4_other_eq N hw (by decide), Option.bind_some, M4_firstOf_eq N ho ht, Option.bind_some, fst2 o t, t1, if_pos (by decide), if_neg (by decide), rf4 N (by decide)]
      · simp only [M5_lots, bnd]
        rw [if_pos hn, if_pos (show 1 ≤ n by omega), if_pos hn, if_pos (show n ≤ 20 by omega), M5_isIn_eq N hw (by decide) (by decide), Option.bind_some, if_neg t2, if_pos (by decide), if_pos rfl, rf5 N (by decide)]
  · refine Op_ref N R (c := outZ n 1 20) (by omega) ?_ (fun ν _ => ?_)
    · simp only [M4_lots]
      rw [M4_outside_eq N hn (by decide) (by decide), Option.bind_some, M4_other_eq N hw (by decide), Option.bind_some, M4_firstOf_eq N ho ht, Option.bind_some, fst1 o, if_pos (show inR (outZ n 1 20) by omega), if_neg o, rf4 N ho]
    · simp only [M5_lots, bnd]
      rw [if_pos hn, if_pos hn, rf5 N (by decide), rf5 N (by decide)]
      unfold outZ at o ⊢
      by_cases c1 : n < 1
      · rw [if_neg (show ¬ 1 ≤ n by omega), if_pos c1, rf5 N (by decide)]
      · rw [if_pos (show 1 ≤ n by omega), if_neg c1]
        rw [if_neg c1] at o
        by_cases c2 : 20 < n
        · rw [if_neg (show ¬ n ≤ 20 by omega), if_pos c2]
        · rw [if_neg c2] at o
          exact absurd rfl o
end
section
/-! whatIs -/
theorem len65 (N : Nat) (μ : mm) : M0_length_8abf5 N 65 μ = some 6 := rfl
theorem zor_in (x y : Int) : inR (zor x y) := by
  have a := Int32.toInt_lt (iO x ||| iO y)
  have b := Int32.le_toInt (iO x ||| iO y)
  unfold zor
  omega
theorem zor_0 {x : Int} (h : inR x) : zor x 0 = x := by
  unfold zor
  rw [show iO 0 = (0 : Int32) from rfl, Int32.or_zero]
  exact iO_toInt h
theorem rowIs4 (N : Nat) {μ : mm} (W : relW μ) {q q' : Nat → Int} (hq : okP q) (h : ∀ k, k < 6 → q k = q' k) : ∀ (k i : Nat), (i : Int) ≤ μ 0 9 → μ 0 9 < (i : Int) + k → ∃ (r : Int) (T : Nat → Int), L4_rowIsOfTrial_2 N k (i : Int) (putC μ 43 (dysC (i - 1) q)) = some (r, putC μ 43 T) ∧ (r = 0 ∨ r = 1) ∧ (r = 1 ↔ ∀ j : Nat, i ≤ j → (j : Int) < μ 0 9 → dayI j q' 2 = μ 6 j) := by
  obtain ⟨t1, t2, t3⟩ := W
  intro k
  induction k with
  | zero => intro i h1 h2; omega
  | succ k ih =>
    intro i h1 h2
    have e9 : putC μ 43 (dysC (i - 1) q) 9 9 = μ 0 9 := (congrFun (putC_row (by decide)) 9).trans t1
    rw [L4_rowIsOfTrial_2]
    simp only [e9]
    rw [if_pos (show inR (i : Int) ∧ inR (μ 0 9) by omega)]
    by_cases c : μ 0 9 ≤ (i : Int)
    · rw [if_pos c]
      exact ⟨1, _, rfl, Or.inr rfl, fun _ j h1 h2 => by omega, fun _ => rfl⟩
    · rw [if_neg c, if_pos (show inR (i : Int) by omega), if_neg (show ¬ 16 ≤ (i : Int) by omega), if_pos (show inR (i : Int) by omega)]
      have chk : ∃ (r : Int) (T : Nat → Int), J4_rowIsOfTrial_31 N (L4_rowIsOfTrial_2 N k) (i : Int) (putC μ 43 (dysC i q)) = some (r, putC μ 43 T) ∧ (r = 0 ∨ r = 1) ∧ (r = 1 ↔ ∀ j : Nat, i ≤ j → (j : Int) < μ 0 9 → dayI j q' 2 = μ 6 j) := by
        have e2 : putC μ 43 (dysC i q) 43 2 = dayI i q' 2 := (congrFun putC_s 2).trans (dysC_p h i 2 (by decide))
        have e46 : putC μ 43 (dysC i q) 46 i = μ 6 i := (congrFun (putC_row (by decide)) i).trans (t3 i (by omega)).1
        have w := (t3 i (by omega)).2
        have ok2 := (dysC_ok hq i).2.2.1
        rw [dysC_p h i 2 (by decide)] at ok2
        simp only [J4_rowIsOfTrial_31, Int.toNat_natCast, e2, e46]
        rw [if_pos (show 0 ≤ (i : Int) ∧ (i : Int) < 16 by omega), if_pos (show inR (dayI i q' 2) ∧ inR (μ 6 i) by omega)]
        by_cases d : dayI i q' 2 = μ 6 i
        · rw [if_pos d]
          obtain ⟨r, T, e, hr, iff⟩ := ih (i + 1) (by omega) (by omega)
          refine ⟨r, T, e, hr, fun z j h1 h2 => ?_, fun z => iff.mpr (fun j h1 h2 => z j (by omega) h2)⟩
          by_cases u : j = i
          · subst u
            exact d
          · exact iff.mp z j (by omega) h2
        · rw [if_neg d]
          exact ⟨0, _, rfl, Or.inl rfl, fun z => absurd z (by decide), fun z => absurd (z i (Nat.le_refl i) (by omega)) d⟩
      by_cases z : (i : Int) ≤ 0
      · rw [if_pos z]
        have : i = 0 := by omega
        subst this
        exact chk
      · obtain ⟨m, rfl⟩ : ∃ m, i = m + 1 := ⟨i - 1, by omega⟩
        rw [if_neg z, show m + 1 - 1 = m by omega, M2_oneDay_eq N 43 (by rw [putC_s]; exact dysC_ok hq m), Option.bind_some, putC_s, putC_putC]
        exact chk
theorem rowIs5 (N : Nat) (hN : 200 ≤ N) (rec : Int → Int → Int → Int → mm → Option (Int × mm)) {μ : mm} (W : relW μ) {p : Nat} (hp : p < 8) {q : Nat → Int} (hq : okP q) (x2 x3 : Int) (x4 : Nat) (hx4 : x4 < 32) : ∀ (k i : Nat) (b : Int) (ν : mm), (i : Int) ≤ μ 0 9 → μ 0 9 < (i : Int) + k → (b = 0 ∨ b = 1) → (∀ a, a ≠ 2 → ν a = μ a) → okR ν 2 → (p : Int) < ν 2 0 → ν 2 1 ≤ 2000 + (i : Int) → at6 ν 2 p (dayI i q) →
    ∃ (y : Int) (ν' : mm), L5_whatIs_80 N rec k (p : Int) x2 x3 (x4 : Int) b (i : Int) ν = rec (p : Int) x2 (zor x3 (if y = 0 then 0 else 1 * 2 ^ x4)) ((x4 : Int) + 1) ν' ∧ (y = 0 ∨ y = 1) ∧ (y = 1 ↔ b = 1 ∧ ∀ j : Nat, i ≤ j → (j : Int) < μ 0 9 → dayI j q 2 = μ 6 j) ∧ ∀ a, a ≠ 2 → ν' a = μ a := by
  obtain ⟨t1, t2, t3⟩ := W
  intro k
  induction k with
  | zero => intro i b ν h1 h2; omega
  | succ k ih =>
    intro i b ν h1 h2 hb hf ok hm hd h6
    have e0 : ν 0 9 = μ 0 9 := by rw [hf 0 (by decide)]
    rw [L5_whatIs_80, e0, if_pos (show inR (i : Int) ∧ inR (μ 0 9) by omega)]
    by_cases c : μ 0 9 ≤ (i : Int)
    · refine ⟨b, ν, ?_, hb, ⟨fun z => ⟨z, fun j h1 h2 => by omega⟩, fun z => z.1⟩, hf⟩
      rw [if_pos c, if_pos (show inR b by omega), if_pos (show 0 ≤ (x4 : Int) ∧ (x4 : Int) < 32 by omega)]
      simp only [J5_whatIs_146, bnd]
      by_cases d : b = 0
      · rw [if_pos d, if_pos d]
      · rw [if_neg d, if_neg d]
        rfl
    · have w := (t3 i (by omega)).2
      have okI := dayI_ok hq i
      have ok2 := okI.2.2.1
      have e6 : ν 6 i = μ 6 i := by rw [hf 6 (by decide)]
      have nx : ∀ b' : Int, (b' = 0 ∨ b' = 1) → (b' = 1 ↔ b = 1 ∧ dayI i q 2 = μ 6 i) → ∃ (y : Int) (ν' : mm), L5_whatIs_80 N rec k (p : Int) x2 x3 (x4 : Int) b' ((i : Int) + 1) (dayR 2 ν) = rec (p : Int) x2 (zor x3 (if y = 0 then 0 else 1 * 2 ^ x4)) ((x4 : Int) + 1) ν' ∧ (y = 0 ∨ y = 1) ∧ (y = 1 ↔ b = 1 ∧ ∀ j : Nat, i ≤ j → (j : Int) < μ 0 9 → dayI j q 2 = μ 6 j) ∧ ∀ a, a ≠ 2 → ν' a = μ a := by
        intro b' hb' hiff
        obtain ⟨y, ν', e, hy, iff, f⟩ := ih (i + 1) b' (dayR 2 ν) (by omega) (by omega) hb' (fun a h => by rw [dayR_row h, hf a h]) (dayR_ok ok (by omega)) (by rw [show dayR 2 ν 2 0 = ν 2 0 from dayN_many]; exact hm) (by rw [show dayR 2 ν 2 1 = ν 2 1 + 1 from dayN_day]; omega) (dayR_at hm h6)
        refine ⟨y, ν', e, hy, iff.trans ?_, f⟩
        constructor
        · intro z
          have z1 := hiff.mp z.1
          refine ⟨z1.1, fun j h1 h2 => ?_⟩
          by_cases u : j = i
          · subst u
            exact z1.2
          · exact z.2 j (by omega) h2
        · intro z
          exact ⟨hiff.mpr ⟨z.1, z.2 i (Nat.le_refl i) (by omega)⟩, fun j h1 h2 => z.2 j (by omega) h2⟩
      rw [if_neg c, if_pos (ixg hp (by decide)), ix2, h6 2 (by decide), if_pos (show 0 ≤ (i : Int) ∧ (i : Int) < 16 by omega), Int.toNat_natCast, e6, if_pos (show inR (dayI i q 2) ∧ inR (μ 6 i) by omega)]
      simp only [J5_whatIs_116, bnd]
      rw [M5_day_eq N 2 (by omega) ok, Option.bind_some, Option.bind_some]
      by_cases d : dayI i q 2 = μ 6 i
      · rw [if_pos d]
        rcases hb with rfl | rfl
        · exact nx (zand 0 1) (Or.inl (by decide)) (by rw [show zand 0 1 = 0 by decide]; exact ⟨fun z => absurd z (by decide), fun z => absurd z.1 (by decide)⟩)
        · exact nx (zand 1 1) (Or.inr (by decide)) (by rw [show zand 1 1 = 1 by decide]; exact ⟨fun _ => ⟨rfl, d⟩, fun _ => rfl⟩)
      · rw [if_neg d]
        rcases hb with rfl | rfl
        · exact nx (zand 0 0) (Or.inl (by decide)) (by rw [show zand 0 0 = 0 by decide]; exact ⟨fun z => absurd z (by decide), fun z => absurd z.1 (by decide)⟩)
        · exact nx (zand 1 0) (Or.inl (by decide)) (by rw [show zand 1 0 = 0 by decide]; exact ⟨fun z => absurd z (by decide), fun z => absurd z.2 d⟩)
end
section
theorem relW_congr {μ ν : mm} (W : relW μ) (h : ∀ a, a ≠ 43 → a ≠ 2 → ν a = μ a) : relW ν := by
  obtain ⟨t1, t2, t3⟩ := W
  have e0 := h 0 (by decide) (by decide)
  have e6 := h 6 (by decide) (by decide)
  have e9 := h 9 (by decide) (by decide)
  have e46 := h 46 (by decide) (by decide)
  refine ⟨by rw [e9, e0]; exact t1, by rw [e0]; exact t2, fun j hj => ?_⟩
  rw [e0] at hj
  rw [e46, e6]
  exact t3 j hj
theorem trial_set {ξ : mm} {c v : Nat} {x : Int} : mu (tkP 43 c ξ) 43 v x = putC ξ 43 (fu (trialQ ξ c (ξ c 2)) v x) := by
  rw [tkP_putC]
  funext a b
  unfold mu putC fu
  by_cases ha : a = 43
  · subst ha
    by_cases hb : b = v
    · subst hb
      rw [if_pos ⟨rfl, rfl⟩, if_pos rfl, if_pos rfl]
    · rw [if_neg (fun z => hb z.2), if_pos rfl, if_pos rfl, if_neg hb]
  · rw [if_neg (fun z => ha z.1), if_neg ha, if_neg ha]
theorem what_loop (N : Nat) (hN : 200 ≤ N) {μ : mm} (W : relW μ) (ok : okR μ 1) (hd : μ 1 1 ≤ 999) {p : Nat} (hp : (p : Int) < μ 1 0) (h6 : at6 μ 1 p (μ (10 + 2 + p))) (v mo : Nat) (hv : (v = 0 ∧ mo = 6) ∨ (v = 1 ∧ mo = 10)) : ∀ (k i : Nat) (b : Int) (ξ : mm), i ≤ mo → mo < i + k → inR b → (∀ a, a ≠ 43 → ξ a = μ a) →
    ∃ (r : Int) (ξ' : mm), L4_whatIs_47 N k (p : Int) (v : Int) b (mo : Int) (i : Int) ξ = some (r, ξ') ∧ (∀ a, a ≠ 43 → ξ' a = μ a) ∧
      ∀ (μ' ν : mm), (∀ a, a ≠ 43 → μ' a = μ a) → (∀ a, a ≠ 2 → ν a = μ' a) → ∃ ν', L5_whatIs_35 N k (p : Int) (v : Int) b (i : Int) ν = some (r, ν') ∧ ∀ a, a ≠ 2 → ν' a = μ' a := by
  have hm := ok.1
  have hp8 : p < 8 := by omega
  have hq : okP (μ (10 + 2 + p)) := okR_at ok hp h6
  have g5 : ∀ (k i : Nat) (b : Int) (ν : mm), L5_whatIs_35 N (k + 1) (p : Int) (v : Int) b (i : Int) ν = J5_whatIs_48 N (L5_whatIs_35 N k) (p : Int) (v : Int) b (i : Int) (mo : Int) (i : Int) ν := by
    intro k i b ν
    rw [L5_whatIs_35, if_pos (show inR (v : Int) by omega)]
    rcases hv with ⟨rfl, rfl⟩ | ⟨rfl, rfl⟩
    · rw [if_pos (by decide)]
      rfl
    · rw [if_neg (by decide)]
      rfl
  intro k
  induction k with
  | zero => intro i b ξ h1 h2; omega
  | succ k ih =>
    intro i b ξ h1 h2 hb hf
    by_cases c : (mo : Int) ≤ (i : Int)
    · refine ⟨b, ξ, ?_, hf, fun μ' ν hμ hν => ⟨ν, ?_, hν⟩⟩
      · rw [L4_whatIs_47, if_pos (show inR (i : Int) ∧ inR (mo : Int) by omega), if_pos c]
      · rw [g5]
        simp only [J5_whatIs_48]
        rw [if_pos (show inR (i : Int) ∧ inR (mo : Int) by omega), if_pos c]
    · have ec := hf (10 + 2 + p) (by omega)
      have hq0 := hq.1
      have okF : okP (fu (μ (10 + 2 + p)) v (i : Int)) := by
        rcases hv with ⟨rfl, rfl⟩ | ⟨rfl, rfl⟩
        · exact ⟨by show 0 ≤ (i : Int) ∧ (i : Int) ≤ 5; omega, hq.2.1, hq.2.2.1, hq.2.2.2.1, hq.2.2.2.2.1, hq.2.2.2.2.2⟩
        · exact ⟨hq.1, by show 0 ≤ (i : Int) ∧ (i : Int) ≤ 9; omega, hq.2.2.1, hq.2.2.2.1, hq.2.2.2.2.1, hq.2.2.2.2.2⟩
      have hT : ∀ j, j < 6 → fu (trialQ ξ (10 + 2 + p) (ξ (10 + 2 + p) 2)) v (i : Int) j = fu (μ (10 + 2 + p)) v (i : Int) j := by
        intro j hj
        unfold fu
        by_cases u : j = v
        · rw [if_pos u, if_pos u]
        · rw [if_neg u, if_neg u, trialQ_p j hj, ec]
      have okT : okP (fu (trialQ ξ (10 + 2 + p) (ξ (10 + 2 + p) 2)) v (i : Int)) := okP_congr okF hT
      have Wξ : relW ξ := relW_congr W (fun a h _ => hf a h)
      have W0 := W.2.1
      have e0 : ξ 0 9 = μ 0 9 := by rw [hf 0 (by decide)]
      have e6 : ξ 6 = μ 6 := hf 6 (by decide)
      obtain ⟨r, T, e, hr, iff⟩ := rowIs4 N Wξ okT hT N 0 (by rw [e0]; omega) (by rw [e0]; omega)
      rw [e0, e6] at iff
      rw [show ((0 : Nat) : Int) = 0 from rfl] at e
      have fT : ∀ a, a ≠ 43 → putC ξ 43 T a = μ a := fun a h => (putC_row h).trans (hf a h)
      have eR : M4_rowIsOfTrial N (putC ξ 43 (fu (trialQ ξ (10 + 2 + p) (ξ (10 + 2 + p) 2)) v (i : Int))) = some (r, putC ξ 43 T) := e
      have zi := zor_in b (1 * 2 ^ i)
      have nb : inR (zor b (if r = 0 then 0 else 1 * 2 ^ i)) := zor_in _ _
      obtain ⟨r2, ξ2, e2, f2, G⟩ := ih (i + 1) (zor b (if r = 0 then 0 else 1 * 2 ^ i)) (putC ξ 43 T) (by omega) (by omega) nb fT
      refine ⟨r2, ξ2, ?_, f2, fun μ' ν hμ hν => ?_⟩
      · rw [L4_whatIs_47, if_pos (show inR (i : Int) ∧ inR (mo : Int) by omega), if_neg c, M1_at_eq N 10 p hp8, Option.bind_some, if_pos (kdo (Or.inl rfl) hp8), M2_takeFrom_eq N (by omega), Option.bind_some, if_pos (show inR (v : Int) by omega)]
        have fin : J4_whatIs_94 N (L4_whatIs_47 N k) (p : Int) (v : Int) b (mo : Int) (i : Int) (mu (tkP 43 (10 + 2 + p) ξ) 43 v (i : Int)) = some (r2, ξ2) := by
          rw [trial_set]
          simp only [J4_whatIs_94, J4_whatIs_110, bnd]
          rw [eR, Option.bind_some]
          dsimp only
          rw [if_pos (show inR r by omega), if_pos (show 0 ≤ (i : Int) ∧ (i : Int) < 32 by omega)]
          by_cases d : r = 0
          · rw [if_pos d, zor_0 hb] at e2
            rw [if_pos d]
            exact e2
          · rw [if_neg d] at e2
            rw [if_neg d]
            exact e2
        simp only [bnd]
        rcases hv with ⟨rfl, rfl⟩ | ⟨rfl, rfl⟩
        · rw [if_pos (by decide)]
          exact fin
        · rw [if_neg (by decide)]
          exact fin
      · have m1 : μ' 1 = μ 1 := hμ 1 (by decide)
        have n1 : ν 1 = μ 1 := (hν 1 (by decide)).trans m1
        have okc : okR (cp 1 2 ν) 2 := cp_ok (okR_congr ok n1)
        have c6 : at6 (cp 1 2 ν) 2 p (μ (10 + 2 + p)) := cp_at hp8 (by intro j hj; rw [n1]; exact h6 j hj)
        have W' : relW μ' := relW_congr W (fun a h _ => hμ a h)
        have m0 : μ' 0 9 = μ 0 9 := by rw [hμ 0 (by decide)]
        have m6 : μ' 6 = μ 6 := hμ 6 (by decide)
        have ep : mu (cp 1 2 ν) 2 (((4 + (6 * (p : Int))) + (v : Int))).toNat (i : Int) = putP (cp 1 2 ν) 2 p (fu (μ (10 + 2 + p)) v (i : Int)) := by
          rw [← putP_mu (show v < 6 by omega), putP_of c6, show ((4 + (6 * (p : Int))) + (v : Int)).toNat = 4 + 6 * p + v by omega]
        obtain ⟨y, ν1, e5, hy, iff5, f5⟩ := rowIs5 N hN (L5_whatIs_35 N k) W' hp8 okF (v : Int) b i (by omega) N 0 1 (putP (cp 1 2 ν) 2 p (fu (μ (10 + 2 + p)) v (i : Int))) (by rw [m0]; omega) (by rw [m0]; omega) (Or.inr rfl) (fun a h => by rw [putP_row h, cp_row h, hν a h]) (okR_putP okc okF) (by rw [putP_lo (by decide), cp_to (by decide), n1]; exact hp) (by rw [putP_lo (by decide), cp_to (by decide), n1]; omega) putP_at
        rw [m0, m6] at iff5
        have yr : y = r := by
          have : y = 1 ↔ r = 1 := iff5.trans ⟨fun z => iff.mpr z.2, fun z => ⟨rfl, iff.mp z⟩⟩
          rcases hy with rfl | rfl
          · rcases hr with rfl | rfl
            · rfl
            · exact this.mpr rfl
          · exact (this.mp rfl).symm
        subst yr
        obtain ⟨ν', e7, f7⟩ := G μ' ν1 hμ f5
        refine ⟨ν', ?_, f7⟩
        rw [g5]
        simp only [J5_whatIs_48, bnd]
        rw [if_pos (show inR (i : Int) ∧ inR (mo : Int) by omega), if_neg c, M5_copies_eq N 1 2 (by omega) (by decide), Option.bind_some, if_pos (show 0 ≤ ((4 + (6 * (p : Int))) + (v : Int)) ∧ ((4 + (6 * (p : Int))) + (v : Int)) < 52 by omega), ep]
        exact e5.trans e7
theorem op_whatIs (N : Nat) (hN : 200 ≤ N) {μ : mm} (R : Rel μ) {p w : Int} (hp : inR p) (hw : inR w) : Op (M4_whatIs N p w) (M5_whatIs N p w) μ := by
  obtain ⟨⟨a1, a2, a3⟩, -, -, W, -⟩ := id R
  have hm := a2.1
  have hu := unkZ_in μ p
  have ht := othZ_in w 1
  by_cases k : unkZ μ p = 0
  · have kk := unkZ_0 k
    obtain ⟨i, rfl⟩ := Int.eq_ofNat_of_zero_le kk.1
    by_cases t : othZ w 1 = 0
    · have tt := othZ_0 t
      obtain ⟨v, rfl⟩ := Int.eq_ofNat_of_zero_le tt.1
      obtain ⟨mo, hmo⟩ : ∃ mo : Nat, (v = 0 ∧ mo = 6) ∨ (v = 1 ∧ mo = 10) := by
        by_cases u : v = 0
        · exact ⟨6, Or.inl ⟨u, rfl⟩⟩
        · exact ⟨10, Or.inr ⟨by omega, rfl⟩⟩
      obtain ⟨r, ξ', e4, f4, G⟩ := what_loop N hN W a2 a3 kk.2 (a1.2.2.2.2 i kk.2) v mo hmo N 0 0 μ (by omega) (by omega) (by decide) (fun _ _ => rfl)
      obtain ⟨ν', e5, f5⟩ := G ξ' ξ' f4 (fun _ _ => rfl)
      rw [show ((0 : Nat) : Int) = 0 from rfl] at e4 e5
      have r1 : ξ' 1 = μ 1 := f4 1 (by decide)
      refine ⟨r, ξ', ν', ?_, ?_, Rel_m R (fun a h43 h2 _ => (f5 a h2).trans (f4 a h43))⟩
      · simp only [M4_whatIs, J4_whatIs_42]
        rw [M4_unknown_eq N hp a1 a2, Option.bind_some, M4_other_eq N hw (by decide), Option.bind_some, M4_firstOf_eq N hu ht, Option.bind_some, fst0 k t, if_pos (by decide), if_pos rfl, if_pos hw, len65, Option.bind_some]
        rcases hmo with ⟨rfl, rfl⟩ | ⟨rfl, rfl⟩
        · rw [if_pos (by decide)]
          exact e4
        · rw [if_neg (by decide)]
          exact e4
      · simp only [M5_whatIs]
        rw [M5_isOne_eq N hp (okR_congr a2 r1), Option.bind_some, r1, if_pos kk, if_pos (by decide), if_neg (by decide), M5_isIn_eq N hw (by decide) (by decide), Option.bind_some, if_pos tt, if_pos (by decide), if_neg (by decide)]
        exact e5
    · obtain ⟨t1, t2⟩ := oth_no t
      refine Op_ref N R (c := -2) (by decide) ?_ (fun ν hν => ?_)
      · simp only [M4_whatIs]
        rw [M4_unknown_eq N hp a1 a2, Option.bind_some, M4_other_eq N hw (by decide), Option.bind_some, M4_firstOf_eq N hu ht, Option.bind_some, fst2 k t, t1, if_pos (by decide), if_neg (by decide), rf4 N (by decide)]
      · have r1 : ν 1 = μ 1 := by rw [hν]; exact r4_c (by decide)
        simp only [M5_whatIs]
        rw [M5_isOne_eq N hp (okR_congr a2 r1), Option.bind_some, r1, if_pos kk, if_pos (by decide), if_neg (by decide), M5_isIn_eq N hw (by decide) (by decide), Option.bind_some, if_neg t2, if_pos (by decide), if_pos rfl, rf5 N (by decide)]
  · obtain ⟨k1, k2⟩ := unkZ_no k
    refine Op_ref N R (c := -1) (by decide) ?_ (fun ν hν => ?_)
    · simp only [M4_whatIs]
      rw [M4_unknown_eq N hp a1 a2, Option.bind_some, M4_other_eq N hw (by decide), Option.bind_some, M4_firstOf_eq N hu ht, Option.bind_some, fst1 k, k1, if_pos (by decide), if_neg (by decide), rf4 N (by decide)]
    · have r1 : ν 1 = μ 1 := by rw [hν]; exact r4_c (by decide)
      simp only [M5_whatIs]
      rw [M5_isOne_eq N hp (okR_congr a2 r1), Option.bind_some, r1, if_neg k2, if_pos (by decide), if_pos rfl, rf5 N (by decide)]
end
section
/-! steps of a COUNTER, between two memories: office 21 of one against row 1 of the other -/
def XS (f g : mm → Option (Int × mm)) (ξ ν : mm) : Prop := ∃ (r : Int) (ξ' ν' : mm), f ξ = some (r, ξ') ∧ g ν = some (r, ν') ∧ (r = 0 ∨ r = 1) ∧ (r = 1 → relX 21 1 ξ' ν' ∧ okR ν' 1 ∧ ν' 1 1 ≤ 999) ∧ (∀ a, a ≠ 21 → (a < 23 ∨ 31 ≤ a) → ξ' a = ξ a) ∧ (∀ a, a ≠ 1 → ν' a = ν a)
theorem XS_no {f g : mm → Option (Int × mm)} {ξ ν : mm} (h : f ξ = some (0, ξ)) (h' : g ν = some (0, ν)) : XS f g ξ ν :=
  ⟨0, ξ, ν, h, h', Or.inl rfl, fun z => absurd z (by decide), fun _ _ _ => rfl, fun _ _ => rfl⟩
theorem x_fill (N : Nat) {ξ ν : mm} (X : relX 21 1 ξ ν) (ok : okR ν 1) (hd : ν 1 1 ≤ 999) {v : Int} (hv : 0 ≤ v ∧ v ≤ 999) : XS (M1_fill N 21 v) (fun μ => if inR ((μ 1 2) + v) then (if ((μ 1 2) + v) ≤ 999 then (bnd (mu μ 1 2 ((μ 1 2) + v)) fun (μ5 : mm) => some (1, μ5)) else (some (0, μ))) else none) ξ ν := by
  have h2 := ok.2.2.1
  have e2 := X.2.1
  obtain ⟨x1, x2, x3, x4, x5⟩ := id X
  by_cases c : ν 1 2 + v ≤ 999
  · refine ⟨1, mu ξ 21 3 (ξ 21 3 + v), mu ν 1 2 (ν 1 2 + v), ?_, ?_, Or.inr rfl, fun _ => ⟨?_, ?_, ?_⟩, fun a h1 h2 => mu_row h1, fun a h1 => mu_row h1⟩
    · unfold M1_fill
      rw [if_pos (show inR (ξ 21 3 + v) by omega), if_pos (show ξ 21 3 + v ≤ 999 by omega)]
      rfl
    · show (if inR ((ν 1 2) + v) then (if ((ν 1 2) + v) ≤ 999 then (bnd (mu ν 1 2 ((ν 1 2) + v)) fun (μ5 : mm) => some ((1 : Int), μ5)) else (some (0, ν))) else none) = _
      rw [if_pos (show inR (ν 1 2 + v) by omega), if_pos c]
      rfl
    · refine ⟨by rw [mu_j (by decide), mu_j (by decide)]; exact x1, by rw [mu_s, mu_s]; omega, by rw [mu_j (by decide), mu_j (by decide)]; exact x3, by rw [mu_j (by decide), mu_j (by decide)]; exact x4, fun p hp k hk => ?_⟩
      rw [mu_j (by decide)] at hp
      rw [mu_j (by omega), mu_c (by omega)]
      exact x5 p hp k hk
    · obtain ⟨o1, o2, o3, o4, o5⟩ := ok
      refine ⟨by rw [mu_j (by decide)]; exact o1, by rw [mu_j (by decide)]; exact o2, by rw [mu_s]; omega, by rw [mu_j (by decide)]; exact o4, fun p hp => ?_⟩
      rw [mu_j (by decide)] at hp
      exact okP_congr (o5 p hp) (fun k hk => mu_j (by omega))
    · rw [mu_j (by decide)]
      exact hd
  · refine XS_no ?_ ?_
    · unfold M1_fill
      rw [if_pos (show inR (ξ 21 3 + v) by omega), if_neg (show ¬ ξ 21 3 + v ≤ 999 by omega)]
    · show (if inR ((ν 1 2) + v) then (if ((ν 1 2) + v) ≤ 999 then (bnd (mu ν 1 2 ((ν 1 2) + v)) fun (μ5 : mm) => some ((1 : Int), μ5)) else (some (0, ν))) else none) = _
      rw [if_pos (show inR (ν 1 2 + v) by omega), if_neg c]
theorem x_days (N : Nat) (hN : 200 ≤ N) {ξ ν : mm} (X : relX 21 1 ξ ν) (ok : okR ν 1) (hd : ν 1 1 ≤ 999) {v : Int} (hv : 0 ≤ v ∧ v ≤ 99) : XS (M1_daysCome N 21 v) (fun μ => (M5_isIn N v 1 60 μ).bind fun (q8 : Int) => if inR q8 then (if q8 = 0 then (some (0, μ)) else (if inR ((μ 1 1) + v) then (if ((μ 1 1) + v) ≤ 999 then ((M5_daysOn N 1 v μ).bind fun (q11 : mm) => some (1, q11)) else (some (0, μ))) else none)) else none) ξ ν := by
  have h1 := ok.2.1
  have e5 := X.2.2.2.1
  have e4 : M1_daysCome N 21 v ξ = if v < 1 then some (0, ξ) else if 60 < v then some (0, ξ) else if ν 1 1 + v ≤ 999 then ((M1_daysGoBy N 21 v ξ).bind fun (q4 : mm) => some (1, q4)) else some (0, ξ) := by
    unfold M1_daysCome
    rw [e5, if_pos (show inR v by omega), if_pos (show inR v by omega), if_pos (show inR (ν 1 1 + v) by omega)]
  have e : ((M5_isIn N v 1 60 ν).bind fun (q8 : Int) => if inR q8 then (if q8 = 0 then (some ((0 : Int), ν)) else (if inR ((ν 1 1) + v) then (if ((ν 1 1) + v) ≤ 999 then ((M5_daysOn N 1 v ν).bind fun (q11 : mm) => some (1, q11)) else (some (0, ν))) else none)) else none) = if v < 1 then some (0, ν) else if 60 < v then some (0, ν) else if ν 1 1 + v ≤ 999 then ((M5_daysOn N 1 v ν).bind fun (q4 : mm) => some (1, q4)) else some (0, ν) := by
    rw [M5_isIn_eq N (show inR v by omega) (by decide) (by decide), Option.bind_some, if_pos (show inR (ν 1 1 + v) by omega)]
    by_cases c1 : v < 1
    · rw [if_neg (show ¬ (1 ≤ v ∧ v ≤ 60) by omega), if_pos (by decide), if_pos rfl, if_pos c1]
    · rw [if_neg c1]
      by_cases c2 : 60 < v
      · rw [if_neg (show ¬ (1 ≤ v ∧ v ≤ 60) by omega), if_pos (by decide), if_pos rfl, if_pos c2]
      · rw [if_pos (show 1 ≤ v ∧ v ≤ 60 by omega), if_pos (by decide), if_neg (by decide), if_neg c2]
  by_cases c : 1 ≤ v ∧ v ≤ 60 ∧ ν 1 1 + v ≤ 999
  · obtain ⟨j, rfl⟩ := Int.eq_ofNat_of_zero_le hv.1
    have okO1 := okO_of X ok
    refine ⟨1, dysO 21 j ξ, days 1 j ν, ?_, e.trans ?_, Or.inr rfl, fun _ => ⟨relX_days X ok j (by omega), days_ok ok j (by omega), by rw [days_day]; omega⟩, fun a h1 h2 => dysO_c okO1 h1 (by omega) j, fun a h1 => funext fun b => days_c h1 j⟩
    · rw [e4, if_neg (by omega), if_neg (by omega), if_pos c.2.2, M1_daysGoBy_eq N (Or.inr (Or.inl rfl)) (by omega) okO1 j (by omega) (by omega), Option.bind_some]
    · rw [if_neg (by omega), if_neg (by omega), if_pos c.2.2, M5_daysOn_eq N 1 (by omega) ok j (by omega) (by omega), Option.bind_some]
  · refine XS_no ?_ (e.trans ?_)
    · rw [e4]
      by_cases c1 : v < 1
      · rw [if_pos c1]
      · rw [if_neg c1]
        by_cases c2 : 60 < v
        · rw [if_pos c2]
        · rw [if_neg c2, if_neg (by omega)]
    · by_cases c1 : v < 1
      · rw [if_pos c1]
      · rw [if_neg c1]
        by_cases c2 : 60 < v
        · rw [if_pos c2]
        · rw [if_neg c2, if_neg (by omega)]
theorem x_due (N : Nat) {ξ ν : mm} (X : relX 21 1 ξ ν) (ok : okR ν 1) (hd : ν 1 1 ≤ 999) {p v : Int} (hp : 0 ≤ p ∧ p ≤ 9) (hv : 0 ≤ v ∧ v ≤ 99) : XS (M1_setDue N 21 p v) (fun μ => (M5_isOne N p μ).bind fun (q96 : Int) => if inR q96 then (if q96 = 0 then (some (0, μ)) else (if inR v then (if v ≤ 60 then (if 0 ≤ ((4 + (6 * p)) + 3) ∧ ((4 + (6 * p)) + 3) < 52 then (bnd (mu μ 1 (((4 + (6 * p)) + 3)).toNat v) fun (μ100 : mm) => some (1, μ100)) else none) else (some (0, μ))) else none)) else none) ξ ν := by
  have hm := ok.1
  obtain ⟨x1, x2, x3, x4, x5⟩ := id X
  obtain ⟨n, rfl⟩ := Int.eq_ofNat_of_zero_le hp.1
  have hk := M1_knows_eq N 21 (p := (n : Int)) (μ := ξ) (by omega) (by omega)
  have h5 := M5_isOne_eq N (p := (n : Int)) (μ := ν) (by omega) ok
  by_cases k : (n : Int) < ν 1 0
  · have hn : n < 8 := by omega
    rw [if_pos (by omega)] at hk h5
    by_cases c : v ≤ 60
    · refine ⟨1, mu ξ (21 + 2 + n) 3 v, mu ν 1 (4 + 6 * n + 3) v, ?_, ?_, Or.inr rfl, fun _ => ⟨?_, ?_, ?_⟩, fun a h1 h2 => mu_row (by omega), fun a h1 => mu_row h1⟩
      · unfold M1_setDue
        rw [hk, Option.bind_some, if_pos (by decide), if_neg (by decide), if_pos (show inR v by omega), if_pos c, M1_at_eq N 21 n hn, Option.bind_some, if_pos (kdO (Or.inr (Or.inl rfl)) hn)]
        rfl
      · dsimp only
        rw [h5, Option.bind_some, if_pos (by decide), if_neg (by decide), if_pos (show inR v by omega), if_pos c, if_pos (ixg hn (by decide)), ix3]
        rfl
      · refine ⟨by rw [mu_c (by omega), mu_j (by omega)]; exact x1, by rw [mu_c (by omega), mu_j (by omega)]; exact x2, by rw [mu_c (by omega), mu_j (by omega)]; exact x3, by rw [mu_c (by omega), mu_j (by omega)]; exact x4, fun p' hp' k hk => ?_⟩
        rw [mu_j (by omega)] at hp'
        have a := x5 p' hp' k hk
        unfold mu
        by_cases d : p' = n ∧ k = 3
        · obtain ⟨rfl, rfl⟩ := d
          rw [if_pos ⟨rfl, rfl⟩, if_pos ⟨rfl, rfl⟩]
        · rw [if_neg (by omega), if_neg (by omega)]
          exact a
      · obtain ⟨o1, o2, o3, o4, o5⟩ := ok
        refine ⟨by rw [mu_j (by omega)]; exact o1, by rw [mu_j (by omega)]; exact o2, by rw [mu_j (by omega)]; exact o3, by rw [mu_j (by omega)]; exact o4, fun p' hp' => ?_⟩
        rw [mu_j (by omega)] at hp'
        have hq := o5 p' hp'
        by_cases d : p' = n
        · subst d
          have hq' : okP (fu (pq ν 1 p') 3 v) := ⟨hq.1, hq.2.1, hq.2.2.1, by show 0 ≤ v ∧ v ≤ 60; omega, hq.2.2.2.2.1, hq.2.2.2.2.2⟩
          refine okP_congr hq' (fun k hk => ?_)
          unfold pq fu mu
          by_cases u : k = 3
          · subst u
            rw [if_pos ⟨rfl, rfl⟩, if_pos rfl]
          · rw [if_neg (by omega), if_neg u]
        · exact okP_congr hq (fun k hk => by unfold pq; rw [mu_j (by omega)])
      · rw [mu_j (by omega)]
        exact hd
    · refine XS_no ?_ ?_
      · unfold M1_setDue
        rw [hk, Option.bind_some, if_pos (by decide), if_neg (by decide), if_pos (show inR v by omega), if_neg c]
      · rw [h5, Option.bind_some, if_pos (by decide), if_neg (by decide), if_pos (show inR v by omega), if_neg c]
  · rw [if_neg (by omega)] at hk h5
    refine XS_no ?_ ?_
    · unfold M1_setDue
      rw [hk, Option.bind_some, if_pos (by decide), if_pos rfl]
    · rw [h5, Option.bind_some, if_pos (by decide), if_pos rfl]
end
section
theorem x_issue (N : Nat) {ξ ν : mm} (X : relX 21 1 ξ ν) (ok : okR ν 1) (hd : ν 1 1 ≤ 999) {p v : Int} (hp : 0 ≤ p ∧ p ≤ 9) (hv : 0 ≤ v ∧ v ≤ 99) : XS (M1_issue N 21 p v) (fun μ => (M5_isOne N p μ).bind fun (q15 : Int) => if inR q15 then (if q15 = 0 then (some (0, μ)) else (if inR v ∧ inR (μ 1 2) then (if (μ 1 2) < v then (some (0, μ)) else (if 0 ≤ ((4 + (6 * p)) + 2) ∧ ((4 + (6 * p)) + 2) < 52 then (if inR ((μ 1 (((4 + (6 * p)) + 2)).toNat) + v) then (if ((μ 1 (((4 + (6 * p)) + 2)).toNat) + v) ≤ 99 then ((M5_issuesIn N 1 p v μ).bind fun (q20 : mm) => some (1, q20)) else (some (0, μ))) else none) else none)) else none)) else none) ξ ν := by
  have hm := ok.1
  have hs := ok.2.2.1
  obtain ⟨x1, x2, x3, x4, x5⟩ := id X
  obtain ⟨n, rfl⟩ := Int.eq_ofNat_of_zero_le hp.1
  have hk := M1_knows_eq N 21 (p := (n : Int)) (μ := ξ) (by omega) (by omega)
  have h5 := M5_isOne_eq N (p := (n : Int)) (μ := ν) (by omega) ok
  by_cases k : (n : Int) < ν 1 0
  · have hn : n < 8 := by omega
    have h6 := x5 n k
    have okO1 := okO_of X ok
    have hq := okO1.2.2 n (by omega)
    have hq2 := hq.2.2.1
    rw [if_pos (by omega)] at hk h5
    by_cases c : ν 1 2 < v
    · refine XS_no ?_ ?_
      · unfold M1_issue
        rw [hk, Option.bind_some, if_pos (by decide), if_neg (by decide), if_pos (show inR v ∧ inR (ξ 21 3) by omega), if_pos (show ξ 21 3 < v by omega)]
      · rw [h5, Option.bind_some, if_pos (by decide), if_neg (by decide), if_pos (show inR v ∧ inR (ν 1 2) by omega), if_pos c]
    · by_cases d : ξ (21 + 2 + n) 2 + v ≤ 99
      · refine ⟨1, isC ξ 21 n v, isR ν 1 n v, ?_, ?_, Or.inr rfl, fun _ => ⟨?_, ?_, ?_⟩, fun a h1 h2 => isC_row h1 (by omega), fun a h1 => isR_row h1⟩
        · rw [M1_issue_eq N (Or.inr (Or.inl rfl)) ⟨okO1, by omega⟩ n (by omega) hv d, if_neg (by omega)]
        · dsimp only
          rw [h5, Option.bind_some, if_pos (by decide), if_neg (by decide), if_pos (show inR v ∧ inR (ν 1 2) by omega), if_neg c, if_pos (ixg hn (by decide)), ix2, h6 2 (by decide), if_pos (show inR (ξ (21 + 2 + n) 2 + v) by omega), if_pos d, M5_issuesIn_eq N 1 n hn, Option.bind_some]
          rfl
        · have := relD_is (p := n) (l := v) (relD_0 X)
          exact ⟨this.1, by rw [this.2.1]; omega, this.2.2⟩
        · exact okR_isR ok k (by omega) (by rw [h6 2 (by decide)]; exact d)
        · rw [isR_sc (by decide) (by decide)]
          exact hd
      · refine XS_no ?_ ?_
        · unfold M1_issue
          rw [hk, Option.bind_some, if_pos (by decide), if_neg (by decide), if_pos (show inR v ∧ inR (ξ 21 3) by omega), if_neg (show ¬ ξ 21 3 < v by omega), M1_at_eq N 21 n hn, Option.bind_some, if_pos (kdO (Or.inr (Or.inl rfl)) hn), if_pos (show inR (ξ (21 + 2 + n) 2 + v) by omega), if_neg d]
        · rw [h5, Option.bind_some, if_pos (by decide), if_neg (by decide), if_pos (show inR v ∧ inR (ν 1 2) by omega), if_neg c, if_pos (ixg hn (by decide)), ix2, h6 2 (by decide), if_pos (show inR (ξ (21 + 2 + n) 2 + v) by omega), if_neg d]
  · rw [if_neg (by omega)] at hk h5
    refine XS_no ?_ ?_
    · unfold M1_issue
      rw [hk, Option.bind_some, if_pos (by decide), if_pos rfl]
    · rw [h5, Option.bind_some, if_pos (by decide), if_pos rfl]
theorem x_hand (N : Nat) {ξ ν : mm} (X : relX 21 1 ξ ν) (ok : okR ν 1) (hd : ν 1 1 ≤ 999) {p : Int} (hp : 0 ≤ p ∧ p ≤ 9) : XS (M1_handIn N 21 p) (fun μ => (M5_isOne N p μ).bind fun (q77 : Int) => if inR q77 then (if q77 = 0 then (some (0, μ)) else ((M5_handsIn N 1 p μ).bind fun (q79 : mm) => some (1, q79))) else none) ξ ν := by
  have hm := ok.1
  have hs := ok.2.2.1
  have hw := ok.2.2.2.1
  obtain ⟨x1, x2, x3, x4, x5⟩ := id X
  obtain ⟨n, rfl⟩ := Int.eq_ofNat_of_zero_le hp.1
  have hk := M1_knows_eq N 21 (p := (n : Int)) (μ := ξ) (by omega) (by omega)
  have h5 := M5_isOne_eq N (p := (n : Int)) (μ := ν) (by omega) ok
  by_cases k : (n : Int) < ν 1 0
  · have hn : n < 8 := by omega
    have h6 := x5 n k
    have okO1 := okO_of X ok
    have hq := okO1.2.2 n (by omega)
    have hq2 := hq.2.2.1
    have e2 := h6 2 (by decide)
    rw [if_pos (by omega)] at hk h5
    refine ⟨1, mu (mu (mu ξ (21 + 2 + n) 2 0) 21 3 (min 999 (ξ 21 3 + ξ (21 + 2 + n) 2))) 21 4 (min 9999 (ξ 21 4 + (ξ 21 3 + ξ (21 + 2 + n) 2 - min 999 (ξ 21 3 + ξ (21 + 2 + n) 2)))), mu (mu (mu ν 1 (4 + 6 * n + 2) 0) 1 2 (min 999 (ν 1 2 + ν 1 (4 + 6 * n + 2)))) 1 3 (min 9999 (ν 1 3 + max 0 (ν 1 2 + ν 1 (4 + 6 * n + 2) - 999))), ?_, ?_, Or.inr rfl, fun _ => ⟨?_, ?_, ?_⟩, fun a h1 h2 => ?_, fun a h1 => ?_⟩
    · simp only [M1_handIn, bnd]
      rw [hk, Option.bind_some, if_pos (by decide), if_neg (by decide), M1_at_eq N 21 n hn, Option.bind_some, if_pos (kdO (Or.inr (Or.inl rfl)) hn), Option.bind_some, if_pos (kdO (Or.inr (Or.inl rfl)) hn), if_pos (show inR (ξ 21 3 + ξ (21 + 2 + n) 2) by omega), mu_s]
      rw [show (if 999 < ξ 21 3 + ξ (21 + 2 + n) 2 then 999 else ξ 21 3 + ξ (21 + 2 + n) 2) = min 999 (ξ 21 3 + ξ (21 + 2 + n) 2) by split <;> omega]
      rw [M1_wear_eq N 21 _ _ (by rw [mu_j (by decide), mu_c (by omega)]; omega) (by omega), Option.bind_some, mu_j (by decide), mu_c (show 21 ≠ 21 + 2 + n by omega)]
    · dsimp only
      rw [h5, Option.bind_some, if_pos (by decide), if_neg (by decide), M5_handsIn_eq N 1 n hn ν hs (by rw [e2]; exact hq2) hw, Option.bind_some]
    · refine ⟨?_, ?_, ?_, ?_, fun p' hp' k hk => ?_⟩
      · rw [mu_j (by decide), mu_j (by decide), mu_c (by omega), mu_j (by decide), mu_j (by decide), mu_j (by omega)]
        exact x1
      · rw [mu_j (by decide), mu_s, mu_j (by decide), mu_s, e2, x2]
      · rw [mu_s, mu_s, e2, x2, x3]
        omega
      · rw [mu_j (by decide), mu_j (by decide), mu_c (by omega), mu_j (by decide), mu_j (by decide), mu_j (by omega)]
        exact x4
      · rw [mu_j (by decide), mu_j (by decide), mu_j (by omega)] at hp'
        have a := x5 p' hp' k hk
        refine Eq.trans (b := mu ν 1 (4 + 6 * n + 2) 0 1 (4 + 6 * p' + k)) (by rw [mu_j (by omega), mu_j (by omega)]) (Eq.trans (b := mu ξ (21 + 2 + n) 2 0 (21 + 2 + p') k) ?_ (Eq.symm (by rw [mu_c (by omega), mu_c (by omega)])))
        unfold mu
        by_cases d : p' = n ∧ k = 2
        · obtain ⟨rfl, rfl⟩ := d
          rw [if_pos ⟨rfl, rfl⟩, if_pos ⟨rfl, rfl⟩]
        · rw [if_neg (by omega), if_neg (by omega)]
          exact a
    · obtain ⟨o1, o2, o3, o4, o5⟩ := ok
      refine ⟨by rw [mu_j (by decide), mu_j (by decide), mu_j (by omega)]; exact o1, by rw [mu_j (by decide), mu_j (by decide), mu_j (by omega)]; exact o2, by rw [mu_j (by decide), mu_s]; omega, by rw [mu_s]; omega, fun p' hp' => ?_⟩
      rw [mu_j (by decide), mu_j (by decide), mu_j (by omega)] at hp'
      have hq' := o5 p' hp'
      by_cases d : p' = n
      · subst d
        refine okP_congr (okP_has hq' (show (0 : Int) ≤ 0 ∧ (0 : Int) ≤ 99 by decide)) (fun k hk => ?_)
        unfold pq fu
        rw [mu_j (by omega), mu_j (by omega)]
        by_cases u : k = 2
        · subst u
          rw [mu_s, if_pos rfl]
        · rw [mu_j (by omega), if_neg u]
      · refine okP_congr hq' (fun k hk => ?_)
        unfold pq
        rw [mu_j (by omega), mu_j (by omega), mu_j (by omega)]
    · rw [mu_j (by decide), mu_j (by decide), mu_j (by omega)]
      exact hd
    · rw [mu_row h1, mu_row h1, mu_row (by omega)]
    · rw [mu_row h1, mu_row h1, mu_row h1]
  · rw [if_neg (by omega)] at hk h5
    refine XS_no ?_ ?_
    · unfold M1_handIn
      rw [hk, Option.bind_some, if_pos (by decide), if_pos rfl]
    · rw [h5, Option.bind_some, if_pos (by decide), if_pos rfl]
end
section
def newP (a b c : Int) : Nat → Int := fun k => if k = 0 then a else if k = 1 then b else if k = 3 then c else 0
theorem adds_loop (N n : Nat) (hn : n < 8) (a b c : Int) {ν : mm} : ∀ (k i : Nat) (ν' : mm), i ≤ 6 → 6 < i + k → (∀ j, j < i → ν' 1 (4 + 6 * n + j) = 0) → (∀ x y, (x ≠ 1 ∨ y < 4 + 6 * n ∨ 10 + 6 * n ≤ y) → ν' x y = ν x y) →
    ∃ ν2, L5_adds_30 N k a b c (n : Int) (i : Int) ν' = some (1, ν2) ∧ at6 ν2 1 n (newP a b c) ∧ ν2 1 0 = ν 1 0 + 1 ∧ (∀ x y, (x ≠ 1 ∨ (y ≠ 0 ∧ (y < 4 + 6 * n ∨ 10 + 6 * n ≤ y))) → ν2 x y = ν x y) := by
  intro k
  induction k with
  | zero => intro i ν' h1 h2; omega
  | succ k ih =>
    intro i ν' h1 h2 hz hf
    rw [L5_adds_30, if_pos (show inR (i : Int) by omega)]
    by_cases d : 6 ≤ (i : Int)
    · rw [if_pos d, if_pos (ixg hn (by decide))]
      simp only [bnd]
      rw [if_pos (ixg hn (by decide)), if_pos (ixg hn (by decide)), ix0, ix1, ix3]
      refine ⟨_, rfl, fun j hj => ?_, ?_, fun x y hxy => ?_⟩
      · rw [mu_j (by omega)]
        have hj' : j = 0 ∨ j = 1 ∨ j = 2 ∨ j = 3 ∨ j = 4 ∨ j = 5 := by omega
        rcases hj' with rfl | rfl | rfl | rfl | rfl | rfl
        · rw [mu_j (by omega), mu_j (by omega), mu_s]
          rfl
        · rw [mu_j (by omega), mu_s]
          rfl
        · rw [mu_j (by omega), mu_j (by omega), mu_j (by omega), hz 2 (by omega)]
          rfl
        · rw [mu_s]
          rfl
        · rw [mu_j (by omega), mu_j (by omega), mu_j (by omega), hz 4 (by omega)]
          rfl
        · rw [mu_j (by omega), mu_j (by omega), mu_j (by omega), hz 5 (by omega)]
          rfl
      · rw [mu_s, mu_j (by omega), mu_j (by omega), mu_j (by omega), hf 1 0 (by omega)]
      · rw [← hf x y (by omega)]
        by_cases hx : x = 1
        · rw [mu_j (by omega), mu_j (by omega), mu_j (by omega), mu_j (by omega)]
        · rw [mu_c hx, mu_c hx, mu_c hx, mu_c hx]
    · rw [if_neg d, if_pos (show 0 ≤ ((4 + (6 * (n : Int))) + (i : Int)) ∧ ((4 + (6 * (n : Int))) + (i : Int)) < 52 by omega), show ((4 + (6 * (n : Int))) + (i : Int)).toNat = 4 + 6 * n + i by omega]
      simp only [bnd]
      refine ih (i + 1) _ (by omega) (by omega) (fun j hj => ?_) (fun x y hxy => ?_)
      · by_cases u : j = i
        · subst u
          rw [mu_s]
        · rw [mu_j (by omega)]
          exact hz j (by omega)
      · by_cases hx : x = 1
        · rw [mu_j (by omega)]
          exact hf x y hxy
        · rw [mu_c hx]
          exact hf x y hxy
theorem x_adds (N : Nat) (hN : 200 ≤ N) {ξ ν : mm} (X : relX 21 1 ξ ν) (ok : okR ν 1) (hd : ν 1 1 ≤ 999) (h31 : ∀ k, k < 6 → ξ 31 k = 0) {a b c : Int} (ha : 0 ≤ a ∧ a ≤ 5) (hb : 0 ≤ b ∧ b ≤ 9) (hc : 0 ≤ c ∧ c ≤ 99) : XS (M1_welcome N 21 a b c) (M5_adds N a b c) ξ ν := by
  have hm := ok.1
  obtain ⟨x1, x2, x3, x4, x5⟩ := id X
  by_cases f : ν 1 0 = 8
  · refine XS_no ?_ ?_
    · unfold M1_welcome
      rw [if_pos (show inR (ξ 21 2) by omega), if_pos (show 8 ≤ ξ 21 2 by omega)]
    · unfold M5_adds
      rw [if_pos (show inR c by omega), if_pos (show inR (ν 1 0) by omega), if_pos f]
      split <;> rfl
  · by_cases g : 60 < c
    · refine XS_no ?_ ?_
      · unfold M1_welcome
        rw [if_pos (show inR (ξ 21 2) by omega), if_neg (show ¬ 8 ≤ ξ 21 2 by omega), if_pos (show inR c by omega), if_neg (show ¬ c ≤ 60 by omega)]
      · unfold M5_adds
        rw [if_pos (show inR c by omega), if_pos g]
    · obtain ⟨n, hn⟩ := Int.eq_ofNat_of_zero_le hm.1
      have hn8 : n < 8 := by omega
      obtain ⟨ν2, e2, at2, c2, f2⟩ := adds_loop N n hn8 a b c (ν := ν) N 0 ν (by omega) (by omega) (fun j hj => by omega) (fun _ _ _ => rfl)
      have et : M2_takeFrom N (21 + 2 + n) (21 + 10) ξ = some (tkP (21 + 2 + n) 31 ξ) := M2_takeFrom_eq N (by omega) ξ
      have new : ∀ k, k < 6 → mu (mu (mu (mu (tkP (21 + 2 + n) 31 ξ) (21 + 2 + n) 0 a) (21 + 2 + n) 1 b) (21 + 2 + n) 3 c) 21 2 ((ν 1 0) + 1) (21 + 2 + n) k = newP a b c k := by
        intro k hk
        rw [mu_c (by omega)]
        have z : ∀ j, j < 6 → tkP (21 + 2 + n) 31 ξ (21 + 2 + n) j = 0 := by
          intro j hj
          unfold tkP
          rw [if_pos ⟨rfl, by omega⟩, if_pos hj, h31 j hj]
        have hj' : k = 0 ∨ k = 1 ∨ k = 2 ∨ k = 3 ∨ k = 4 ∨ k = 5 := by omega
        rcases hj' with rfl | rfl | rfl | rfl | rfl | rfl
        · rw [mu_j (by decide), mu_j (by decide), mu_s]
          rfl
        · rw [mu_j (by decide), mu_s]
          rfl
        · rw [mu_j (by decide), mu_j (by decide), mu_j (by decide), z 2 (by decide)]
          rfl
        · rw [mu_s]
          rfl
        · rw [mu_j (by decide), mu_j (by decide), mu_j (by decide), z 4 (by decide)]
          rfl
        · rw [mu_j (by decide), mu_j (by decide), mu_j (by decide), z 5 (by decide)]
          rfl
      have oth : ∀ x, x ≠ 21 → x ≠ 21 + 2 + n → mu (mu (mu (mu (tkP (21 + 2 + n) 31 ξ) (21 + 2 + n) 0 a) (21 + 2 + n) 1 b) (21 + 2 + n) 3 c) 21 2 ((ν 1 0) + 1) x = ξ x := by
        intro x h1 h2
        rw [mu_row h1, mu_row h2, mu_row h2, mu_row h2]
        funext y
        unfold tkP
        rw [if_neg (fun z => h2 z.1)]
      have sc : ∀ y, y ≠ 2 → mu (mu (mu (mu (tkP (21 + 2 + n) 31 ξ) (21 + 2 + n) 0 a) (21 + 2 + n) 1 b) (21 + 2 + n) 3 c) 21 2 ((ν 1 0) + 1) 21 y = ξ 21 y := by
        intro y hy
        rw [mu_j hy, mu_c (by omega), mu_c (by omega), mu_c (by omega)]
        unfold tkP
        rw [if_neg (by omega)]
      have okn : okP (newP a b c) := ⟨ha, hb, by show (0 : Int) ≤ 0 ∧ (0 : Int) ≤ 99; decide, by show 0 ≤ c ∧ c ≤ 60; omega, by show (0 : Int) ≤ 0 ∧ (0 : Int) ≤ 999; decide, by show (0 : Int) ≤ 0 ∧ (0 : Int) ≤ 999; decide⟩
      refine ⟨1, _, ν2, ?_, ?_, Or.inr rfl, fun _ => ⟨⟨?_, ?_, ?_, ?_, fun p' hp' k hk => ?_⟩, ⟨?_, ?_, ?_, ?_, fun p' hp' => ?_⟩, ?_⟩, fun x h1 h2 => oth x h1 (by omega), fun x h1 => funext fun y => f2 x y (Or.inl h1)⟩
      · unfold M1_welcome
        rw [if_pos (show inR (ξ 21 2) by omega), if_neg (show ¬ 8 ≤ ξ 21 2 by omega), if_pos (show inR c by omega), if_pos (show c ≤ 60 by omega), x1, hn, M1_at_eq N 21 n hn8, Option.bind_some, if_pos (kdO (Or.inr (Or.inl rfl)) hn8), et, Option.bind_some]
        simp only [bnd]
        rw [show mu (mu (mu (tkP (21 + 2 + n) 31 ξ) (21 + 2 + n) 0 a) (21 + 2 + n) 1 b) (21 + 2 + n) 3 c 21 2 = ν 1 0 from by
          rw [mu_c (by omega), mu_c (by omega), mu_c (by omega), ← x1]
          unfold tkP
          rw [if_neg (by omega)], hn]
      · unfold M5_adds
        rw [if_pos (show inR c by omega), if_neg g, if_pos (show inR (ν 1 0) by omega), if_neg f]
        simp only [bnd]
        rw [hn]
        exact e2
      · rw [mu_s, c2]
      · rw [sc 3 (by decide), f2 1 2 (by omega)]
        exact x2
      · rw [sc 4 (by decide), f2 1 3 (by omega)]
        exact x3
      · rw [sc 5 (by decide), f2 1 1 (by omega)]
        exact x4
      · rw [c2] at hp'
        by_cases u : p' = n
        · subst u
          rw [at2 k hk]
          exact (new k hk).symm
        · rw [f2 1 (4 + 6 * p' + k) (by omega), oth (21 + 2 + p') (by omega) (by omega)]
          exact x5 p' (by omega) k hk
      · rw [c2]; omega
      · rw [f2 1 1 (by omega)]; exact ok.2.1
      · rw [f2 1 2 (by omega)]; exact ok.2.2.1
      · rw [f2 1 3 (by omega)]; exact ok.2.2.2.1
      · rw [c2] at hp'
        by_cases u : p' = n
        · subst u
          exact okP_congr okn (fun k hk => at2 k hk)
        · exact okP_congr (ok.2.2.2.2 p' (by omega)) (fun k hk => f2 1 _ (by omega))
      · rw [f2 1 1 (by omega)]
        exact hd
end
section
/-! THROUGH more and SHORT more: of one alone in thought (the class), of all in mind (the reference) -/
def thn (n : Nat) (q : Nat → Int) (h : Int) : Int := dayI n (fu q 2 h) 4 - q 4
def shn (n : Nat) (q : Nat → Int) (h : Int) : Int := dayI n (fu q 2 h) 5 - q 5
theorem fu_self (q : Nat → Int) : fu q 2 (q 2) = q := by
  funext k
  unfold fu
  by_cases c : k = 2
  · rw [if_pos c, c]
  · rw [if_neg c]
theorem dayP_up {q : Nat → Int} (h : okP q) : q 4 ≤ dayP q 4 ∧ q 5 ≤ dayP q 5 := by
  have h4 := h.2.2.2.2.1
  have h5 := h.2.2.2.2.2
  unfold dayP
  by_cases a : q 3 = 0
  · rw [if_pos a]
    omega
  · rw [if_neg a]
    by_cases b : q 3 = 1
    · rw [if_pos b]
      show q 4 ≤ (if needsZ (q 0) (q 1) ≤ q 2 then min 999 (q 4 + 1) else q 4) ∧ q 5 ≤ (if needsZ (q 0) (q 1) ≤ q 2 then q 5 else min 999 (q 5 + 1))
      by_cases c : needsZ (q 0) (q 1) ≤ q 2
      · rw [if_pos c, if_pos c]
        omega
      · rw [if_neg c, if_neg c]
        omega
    · rw [if_neg b, fu_n (by decide), fu_n (by decide)]
      omega
theorem dayI_up {q : Nat → Int} (h : okP q) : ∀ n, q 4 ≤ dayI n q 4 ∧ q 5 ≤ dayI n q 5 := by
  intro n
  induction n with
  | zero => exact ⟨Int.le_refl _, Int.le_refl _⟩
  | succ n ih =>
    have := dayP_up (dayI_ok h n)
    show q 4 ≤ dayP (dayI n q) 4 ∧ q 5 ≤ dayP (dayI n q) 5
    omega
theorem thn_in {q : Nat → Int} (h : okP q) {v : Int} (hv : 0 ≤ v ∧ v ≤ 99) (n : Nat) : 0 ≤ thn n q v ∧ thn n q v ≤ 999 := by
  have a := dayI_up (okP_has h hv) n
  have b := (dayI_ok (okP_has h hv) n).2.2.2.2.1
  have c := h.2.2.2.2.1
  have d : fu q 2 v 4 = q 4 := fu_n (by decide)
  unfold thn
  omega
theorem shn_in {q : Nat → Int} (h : okP q) {v : Int} (hv : 0 ≤ v ∧ v ≤ 99) (n : Nat) : 0 ≤ shn n q v ∧ shn n q v ≤ 999 := by
  have a := dayI_up (okP_has h hv) n
  have b := (dayI_ok (okP_has h hv) n).2.2.2.2.2
  have c := h.2.2.2.2.2
  have d : fu q 2 v 5 = q 5 := fu_n (by decide)
  unfold shn
  omega
theorem trialQ_fu {μ ν : mm} {c : Nat} {has : Int} (he : ν c = μ c) : ∀ k, k < 6 → trialQ ν c has k = fu (μ c) 2 has k := by
  intro k hk
  unfold trialQ fu
  rw [he]
  by_cases h2 : k = 2
  · rw [if_pos h2, if_pos h2]
  · rw [if_neg h2, if_neg h2, if_pos hk]
theorem throughMore_eq (N : Nat) {μ ν : mm} {p : Nat} (hp : p < 8) (he : ν (10 + 2 + p) = μ (10 + 2 + p)) (h : okP (μ (10 + 2 + p))) {has : Int} (hh : 0 ≤ has ∧ has ≤ 99) (n : Nat) (hn : n ≤ 100) (hN : 200 ≤ N) : ∃ T : Nat → Int, M4_throughMore N (p : Int) has (n : Int) ν = some (thn n (μ (10 + 2 + p)) has, putC ν 43 T) := by
  have h' : okP (ν (10 + 2 + p)) := by rw [he]; exact h
  refine ⟨dysC n (trialQ ν (10 + 2 + p) has), ?_⟩
  have e := dysC_p (trialQ_fu (has := has) he) n 4 (by decide)
  unfold M4_throughMore
  rw [M4_thought_eq N hp h' hh n (by omega) (by omega), Option.bind_some]
  dsimp only
  rw [if_pos (by decide), M1_at_eq N 10 p hp, Option.bind_some, if_pos (kdo (Or.inl rfl) hp), putC_s, putC_row (show 10 + 2 + p ≠ 43 by omega), e, he]
  rfl
theorem shortMore_eq (N : Nat) {μ ν : mm} {p : Nat} (hp : p < 8) (he : ν (10 + 2 + p) = μ (10 + 2 + p)) (h : okP (μ (10 + 2 + p))) {has : Int} (hh : 0 ≤ has ∧ has ≤ 99) (n : Nat) (hn : n ≤ 100) (hN : 200 ≤ N) : ∃ T : Nat → Int, M4_shortMore N (p : Int) has (n : Int) ν = some (shn n (μ (10 + 2 + p)) has, putC ν 43 T) := by
  have h' : okP (ν (10 + 2 + p)) := by rw [he]; exact h
  refine ⟨dysC n (trialQ ν (10 + 2 + p) has), ?_⟩
  have e := dysC_p (trialQ_fu (has := has) he) n 5 (by decide)
  unfold M4_shortMore
  rw [M4_thought_eq N hp h' hh n (by omega) (by omega), Option.bind_some]
  dsimp only
  rw [if_pos (by decide), M1_at_eq N 10 p hp, Option.bind_some, if_pos (kdo (Or.inl rfl) hp), putC_s, putC_row (show 10 + 2 + p ≠ 43 by omega), e, he]
  rfl
/-! sums -/
theorem sumN_sub (f g : Nat → Int) : ∀ m, sumN f m - sumN g m = sumN (fun j => f j - g j) m := by
  intro m
  induction m with
  | zero => rfl
  | succ m ih =>
    show sumN f m + f m - (sumN g m + g m) = sumN (fun j => f j - g j) m + (f m - g m)
    rw [← ih]
    omega
theorem sumN_999 {f : Nat → Int} : ∀ m : Nat, (∀ i, i < m → 0 ≤ f i ∧ f i ≤ 999) → 0 ≤ sumN f m ∧ sumN f m ≤ 999 * (m : Int) := by
  intro m
  induction m with
  | zero => intro _; exact ⟨Int.le_refl _, Int.le_refl _⟩
  | succ m ih =>
    intro h
    have a := ih (fun i hi => h i (by omega))
    have b := h m (by omega)
    show 0 ≤ sumN f m + f m ∧ sumN f m + f m ≤ 999 * ((m + 1 : Nat) : Int)
    omega
theorem sumN_upd {f g : Nat → Int} {p : Nat} (h : ∀ j, j ≠ p → f j = g j) : ∀ m, p < m → sumN f m = sumN g m + (f p - g p) := by
  intro m
  induction m with
  | zero => intro h; omega
  | succ m ih =>
    intro hp
    show sumN f m + f m = sumN g m + g m + (f p - g p)
    by_cases c : p = m
    · subst c
      have e : sumN f p = sumN g p := sumN_congr p (fun i hi => h i (by omega))
      omega
    · have a := ih (by omega)
      have b := h m (fun z => c z.symm)
      omega
/-! the reference: its row of what is in mind, as copied from the row of now -/
theorem cpS {μ ν : mm} (R1 : relO 10 1 μ) (ok : okR μ 1) (e : ν 1 = μ 1) : okR (cp 1 2 ν) 2 ∧ cp 1 2 ν 2 0 = μ 1 0 ∧ cp 1 2 ν 2 1 = μ 1 1 ∧ cp 1 2 ν 2 2 = μ 1 2 ∧ cp 1 2 ν 1 = μ 1 ∧ ∀ j : Nat, (j : Int) < μ 1 0 → at6 (cp 1 2 ν) 2 j (μ (10 + 2 + j)) := by
  have hm := ok.1
  refine ⟨cp_ok (okR_congr ok e), by rw [cp_to (by decide), e], by rw [cp_to (by decide), e], by rw [cp_to (by decide), e], by rw [cp_row (by decide), e], fun j hj => cp_at (by omega) ?_⟩
  intro k hk
  rw [e]
  exact R1.2.2.2.2 j hj k hk
theorem thrB (N : Nat) {ν : mm} (hN : 200 ≤ N) (m : Nat) (hm : m ≤ 8) (m1 : ν 1 0 = (m : Int)) (ok2 : okR ν 2) (m2 : ν 2 0 = (m : Int)) (hd : ν 2 1 ≤ 2000) (n : Nat) (hn : n ≤ 100) {Q Q' : Nat → Nat → Int} (h1 : ∀ j, j < m → at6 ν 1 j (Q j)) (h2 : ∀ j, j < m → at6 ν 2 j (Q' j)) : M5_throughBehind N (n : Int) ν = some (sumN (fun j => dayI n (Q' j) 4 - Q j 4) m, days 2 n ν) := by
  have okd := days_ok ok2 n (by omega)
  have r0 : days 2 n ν 1 0 = (m : Int) := by rw [days_c (by decide), m1]
  have e2 := M5_allOf_eq N 2 4 (by decide) (by omega) (μ := days 2 n ν) okd.1
  have e1 := M5_allOf_eq N 1 4 (by decide) (by omega) (μ := days 2 n ν) (by omega)
  rw [show ((4 : Nat) : Int) = 4 from rfl] at e1 e2
  have s2 : sumN (fun p => days 2 n ν 2 (4 + 6 * p + 4)) (days 2 n ν 2 0).toNat = sumN (fun j => dayI n (Q' j) 4) m := by
    rw [days_many, m2, Int.toNat_natCast]
    exact sumN_congr _ (fun i hi => days_at (by omega) (h2 i hi) n 4 (by decide))
  have s1 : sumN (fun p => days 2 n ν 1 (4 + 6 * p + 4)) (days 2 n ν 1 0).toNat = sumN (fun j => Q j 4) m := by
    rw [r0, Int.toNat_natCast]
    exact sumN_congr _ (fun i hi => (days_c (by decide) n).trans (h1 i hi 4 (by decide)))
  unfold M5_throughBehind
  rw [M5_daysOn_eq N 2 (by omega) ok2 n (by omega) (by omega), Option.bind_some, e2, Option.bind_some, e1, Option.bind_some, s2, s1, sumN_sub]
theorem M5_throughOf_eq (N : Nat) {ν : mm} {p : Nat} (hp : p < 8) {q' q : Nat → Int} (h2 : at6 ν 2 p q') (h1 : at6 ν 1 p q) : M5_throughOf N 2 (p : Int) ν = some (q' 4 - q 4) := by
  unfold M5_throughOf
  rw [if_pos (ixg hp (by decide)), if_pos (ixg hp (by decide)), ix4, h2 4 (by decide), h1 4 (by decide)]
theorem putP_all {ν : mm} {m p : Nat} {q' : Nat → Int} {Q : Nat → Nat → Int} (h2 : ∀ j, j < m → at6 ν 2 j (Q j)) : ∀ j, j < m → at6 (putP ν 2 p q') 2 j (if j = p then q' else Q j) := by
  intro j hj
  by_cases c : j = p
  · subst c
    rw [if_pos rfl]
    exact putP_at
  · rw [if_neg c]
    exact putP_ne (h2 j hj) c
theorem set2 {ν : mm} {p : Nat} {q : Nat → Int} (h6 : at6 ν 2 p q) (v : Int) : mu ν 2 (4 + 6 * p + 2) v = putP ν 2 p (fu q 2 v) := by
  rw [← putP_mu (by decide), putP_of h6]
end
section
/-! grain -/
def mxZ (f : Nat → Int) : Nat → Nat → Int → Int → Int
  | 0, _, who, _ => who
  | k + 1, p, who, most => if f p ≤ most then mxZ f k (p + 1) who most else mxZ f k (p + 1) (p : Int) (f p)
def grF (n : Nat) (Q : Nat → Nat → Int) (p : Nat) : Int := thn n (Q p) (min 99 (Q p 2 + 1)) - thn n (Q p) (Q p 2)
theorem grF_in (n : Nat) {Q : Nat → Nat → Int} {p : Nat} (h : okP (Q p)) : -999 ≤ grF n Q p ∧ grF n Q p ≤ 999 := by
  have h2 := h.2.2.1
  have a := thn_in h (v := min 99 (Q p 2 + 1)) (by omega) n
  have b := thn_in h (v := Q p 2) h2 n
  unfold grF
  omega
theorem grain4 (N : Nat) (hN : 200 ≤ N) {μ : mm} (a1 : relO 10 1 μ) (a2 : okR μ 1) (n : Nat) (hn : n ≤ 100) (m : Nat) (hm : (m : Int) = μ 1 0) : ∀ (k p : Nat) (who most : Int) (ν : mm), p ≤ m → m < p + k → (0 ≤ most ∧ most ≤ 2000) → (∀ a, a ≠ 43 → ν a = μ a) →
    ∃ ν', L4_grain_27 N k (n : Int) who most (p : Int) ν = some (mxZ (grF n (fun j => μ (10 + 2 + j))) (m - p) p who most, ν') ∧ ∀ a, a ≠ 43 → ν' a = μ a := by
  have h8 := a2.1
  intro k
  induction k with
  | zero => intro p who most ν h1 h2; omega
  | succ k ih =>
    intro p who most ν h1 h2 hmo hf
    have e10 : ν 10 2 = (m : Int) := by rw [hf 10 (by decide), a1.1, hm]
    rw [L4_grain_27, e10, if_pos (show inR (p : Int) ∧ inR (m : Int) by omega)]
    by_cases c : (m : Int) ≤ (p : Int)
    · rw [if_pos c, show m - p = 0 by omega]
      exact ⟨ν, rfl, hf⟩
    · have hp8 : p < 8 := by omega
      have hq : okP (μ (10 + 2 + p)) := offP a1 a2 (by omega)
      have hq2 := hq.2.2.1
      have ep : ν (10 + 2 + p) = μ (10 + 2 + p) := hf _ (by omega)
      have hF := grF_in n (Q := fun j => μ (10 + 2 + j)) (p := p) hq
      rw [if_neg c, M1_at_eq N 10 p hp8, Option.bind_some, if_pos (kdo (Or.inl rfl) hp8)]
      simp only [bnd]
      rw [ep, if_pos (show inR (μ (10 + 2 + p) 2) by omega), show m - p = (m - (p + 1)) + 1 by omega, mxZ]
      by_cases d : μ (10 + 2 + p) 2 < 99
      · have eF : grF n (fun j => μ (10 + 2 + j)) p = thn n (μ (10 + 2 + p)) (μ (10 + 2 + p) 2 + 1) - thn n (μ (10 + 2 + p)) (μ (10 + 2 + p) 2) := by
          show thn n (μ (10 + 2 + p)) (min 99 (μ (10 + 2 + p) 2 + 1)) - _ = _
          rw [Int.min_eq_right (by omega)]
        obtain ⟨T, eT⟩ := throughMore_eq N hp8 ep hq (has := μ (10 + 2 + p) 2 + 1) (by omega) n hn hN
        have hf1 : ∀ a, a ≠ 43 → putC ν 43 T a = μ a := fun a h => (putC_row h).trans (hf a h)
        obtain ⟨T', eT'⟩ := throughMore_eq N hp8 (hf1 (10 + 2 + p) (by omega)) hq (has := μ (10 + 2 + p) 2) hq2 n hn hN
        have hf2 : ∀ a, a ≠ 43 → putC (putC ν 43 T) 43 T' a = μ a := fun a h => (putC_row h).trans (hf1 a h)
        rw [if_pos d, eT, Option.bind_some]
        dsimp only
        rw [eT', Option.bind_some]
        dsimp only
        rw [← eF, if_pos (show inR (grF n (fun j => μ (10 + 2 + j)) p) ∧ inR most by omega)]
        simp only [J4_grain_100]
        by_cases g : grF n (fun j => μ (10 + 2 + j)) p ≤ most
        · rw [if_pos g, if_pos g]
          exact ih (p + 1) who most _ (by omega) (by omega) hmo hf2
        · rw [if_neg g, if_neg g]
          exact ih (p + 1) (p : Int) _ _ (by omega) (by omega) (by omega) hf2
      · have eF : grF n (fun j => μ (10 + 2 + j)) p = 0 := by
          show thn n (μ (10 + 2 + p)) (min 99 (μ (10 + 2 + p) 2 + 1)) - thn n (μ (10 + 2 + p)) (μ (10 + 2 + p) 2) = 0
          rw [show min 99 (μ (10 + 2 + p) 2 + 1) = μ (10 + 2 + p) 2 by omega]
          omega
        rw [if_neg d, eF, if_pos hmo.1]
        simp only [J4_grain_100]
        exact ih (p + 1) who most ν (by omega) (by omega) hmo hf
theorem grain5 (N : Nat) (hN : 200 ≤ N) {μ : mm} (a1 : relO 10 1 μ) (a2 : okR μ 1) (a3 : μ 1 1 ≤ 999) (n : Nat) (hn : n ≤ 100) (m : Nat) (hm : (m : Int) = μ 1 0) (B : Int) (hB : B = sumN (fun j => thn n (μ (10 + 2 + j)) (μ (10 + 2 + j) 2)) m) : ∀ (k p : Nat) (who most : Int) (ν : mm), p ≤ m → m < p + k → (0 ≤ most ∧ most ≤ 2000) → (∀ a, a ≠ 2 → ν a = μ a) →
    ∃ ν', L5_grain_42 N k (n : Int) (B + most) who (p : Int) ν = some (mxZ (grF n (fun j => μ (10 + 2 + j))) (m - p) p who most, ν') ∧ ∀ a, a ≠ 2 → ν' a = μ a := by
  have h8 := a2.1
  have hBi := sumN_999 (f := fun j => thn n (μ (10 + 2 + j)) (μ (10 + 2 + j) 2)) m (fun i hi => thn_in (offP a1 a2 (by omega)) (offP a1 a2 (n := i) (by omega)).2.2.1 n)
  rw [← hB] at hBi
  intro k
  induction k with
  | zero => intro p who most ν h1 h2; omega
  | succ k ih =>
    intro p who most ν h1 h2 hmo hf
    have e1 := hf 1 (by decide)
    have e10 : ν 1 0 = (m : Int) := by rw [e1, hm]
    rw [L5_grain_42, e10, if_pos (show inR (p : Int) ∧ inR (m : Int) by omega)]
    by_cases c : (m : Int) ≤ (p : Int)
    · rw [if_pos c, show m - p = 0 by omega]
      exact ⟨ν, rfl, hf⟩
    · have hp8 : p < 8 := by omega
      have hq : okP (μ (10 + 2 + p)) := offP a1 a2 (by omega)
      have hq2 := hq.2.2.1
      have hF := grF_in n (Q := fun j => μ (10 + 2 + j)) (p := p) hq
      obtain ⟨s1, s2, s3, s4, s5, s6⟩ := cpS a1 a2 e1
      have h62 := s6 p (by omega)
      have hv : 0 ≤ min 99 (μ (10 + 2 + p) 2 + 1) ∧ min 99 (μ (10 + 2 + p) 2 + 1) ≤ 99 := by omega
      have okq := okP_has hq hv
      have okp := okR_putP (p := p) s1 okq
      have ct : ∀ a, a ≠ 2 → putP (cp 1 2 ν) 2 p (fu (μ (10 + 2 + p)) 2 (min 99 (μ (10 + 2 + p) 2 + 1))) a = μ a := fun a h => (putP_row h).trans ((cp_row h).trans (hf a h))
      have eB := thrB N (ν := putP (cp 1 2 ν) 2 p (fu (μ (10 + 2 + p)) 2 (min 99 (μ (10 + 2 + p) 2 + 1)))) hN m (by omega) (by rw [ct 1 (by decide), hm]) okp (by rw [putP_lo (by decide), s2, hm]) (by rw [putP_lo (by decide), s3]; omega) n hn (Q := fun j => μ (10 + 2 + j)) (fun j hj => by intro k hk; rw [ct 1 (by decide)]; exact a1.2.2.2.2 j (by omega) k hk) (putP_all (fun j hj => s6 j (by omega)))
      have eV : sumN (fun j => dayI n (if j = p then fu (μ (10 + 2 + p)) 2 (min 99 (μ (10 + 2 + p) 2 + 1)) else μ (10 + 2 + j)) 4 - μ (10 + 2 + j) 4) m = B + grF n (fun j => μ (10 + 2 + j)) p := by
        rw [hB, sumN_upd (p := p) (g := fun j => thn n (μ (10 + 2 + j)) (μ (10 + 2 + j) 2)) (fun j hj => ?_) m (by omega)]
        · show _ + (dayI n (if p = p then fu (μ (10 + 2 + p)) 2 (min 99 (μ (10 + 2 + p) 2 + 1)) else μ (10 + 2 + p)) 4 - μ (10 + 2 + p) 4 - thn n (μ (10 + 2 + p)) (μ (10 + 2 + p) 2)) = _
          rw [if_pos rfl]
          rfl
        · show dayI n (if j = p then _ else μ (10 + 2 + j)) 4 - μ (10 + 2 + j) 4 = thn n (μ (10 + 2 + j)) (μ (10 + 2 + j) 2)
          rw [if_neg hj]
          unfold thn
          rw [fu_self]
      rw [eV] at eB
      rw [if_neg c, M5_copies_eq N 1 2 (by omega) (by decide), Option.bind_some, if_pos (ixg hp8 (by decide)), ix2, h62 2 (by decide), M5_least_eq N (by decide) (by omega), Option.bind_some, if_pos (ixg hp8 (by decide))]
      simp only [bnd]
      rw [set2 h62, eB, Option.bind_some]
      dsimp only
      rw [if_pos (show inR (B + grF n (fun j => μ (10 + 2 + j)) p) ∧ inR (B + most) by omega), show m - p = (m - (p + 1)) + 1 by omega, mxZ]
      simp only [J5_grain_116]
      have ct2 : ∀ a, a ≠ 2 → days 2 n (putP (cp 1 2 ν) 2 p (fu (μ (10 + 2 + p)) 2 (min 99 (μ (10 + 2 + p) 2 + 1)))) a = μ a := fun a h => (funext fun b => days_c h n).trans (ct a h)
      by_cases g : grF n (fun j => μ (10 + 2 + j)) p ≤ most
      · rw [if_neg (show ¬ B + most < B + grF n (fun j => μ (10 + 2 + j)) p by omega), if_pos g]
        exact ih (p + 1) who most _ (by omega) (by omega) hmo ct2
      · rw [if_pos (show B + most < B + grF n (fun j => μ (10 + 2 + j)) p by omega), if_neg g]
        exact ih (p + 1) (p : Int) _ _ (by omega) (by omega) (by omega) ct2
theorem rel_of43 {μ ν : mm} (a1 : relO 10 1 μ) (a2 : okR μ 1) (hf : ∀ a, a ≠ 43 → ν a = μ a) : relO 10 1 ν ∧ okR ν 1 := by
  have e1 := hf 1 (by decide)
  exact ⟨relO_congr a1 (hf 10 (by decide)) e1 (fun p hp => hf _ (by omega)) a2.1.2, okR_congr a2 e1⟩
theorem op_grain (N : Nat) (hN : 200 ≤ N) {μ : mm} (R : Rel μ) {n : Int} (hn : inR n) : Op (M4_grain N n) (M5_grain N n) μ := by
  obtain ⟨⟨a1, a2, a3⟩, -⟩ := id R
  have hm := a2.1
  have ho := outZ_in n 1 30
  by_cases o : outZ n 1 30 = 0
  · have oo := outZ_0 o
    obtain ⟨j, rfl⟩ := Int.eq_ofNat_of_zero_le (show 0 ≤ n by omega)
    obtain ⟨m, hmm⟩ := Int.eq_ofNat_of_zero_le hm.1
    obtain ⟨μ1, e4, f4⟩ := grain4 N hN a1 a2 j (by omega) m hmm.symm N 0 (-9) 0 μ (by omega) (by omega) (by decide) (fun _ _ => rfl)
    obtain ⟨b1, b2⟩ := rel_of43 a1 a2 f4
    have r1 := f4 1 (by decide)
    have hpp : ∀ i : Nat, (i : Int) < μ 1 0 → μ1 (10 + 2 + i) = μ (10 + 2 + i) := fun i hi => f4 _ (by omega)
    obtain ⟨s1, s2, s3, s4, s5, s6⟩ := cpS b1 b2 (ν := μ1) rfl
    have eB := thrB N (ν := cp 1 2 μ1) hN m (by omega) (by rw [s5, r1, hmm]) s1 (by rw [s2, r1, hmm]) (by rw [s3, r1]; omega) j (by omega) (Q := fun i => μ1 (10 + 2 + i)) (Q' := fun i => μ1 (10 + 2 + i)) (fun i hi => by intro k hk; rw [s5]; exact b1.2.2.2.2 i (by rw [r1]; omega) k hk) (fun i hi => s6 i (by rw [r1]; omega))
    have eB' : sumN (fun i => dayI j (μ1 (10 + 2 + i)) 4 - μ1 (10 + 2 + i) 4) m = sumN (fun i => thn j (μ1 (10 + 2 + i)) (μ1 (10 + 2 + i) 2)) m := sumN_congr _ (fun i hi => by unfold thn; rw [fu_self])
    obtain ⟨μ2, e5, f5⟩ := grain5 N hN (μ := μ1) b1 b2 (by rw [r1]; exact a3) j (by omega) m (by rw [r1]; exact hmm.symm) (sumN (fun i => thn j (μ1 (10 + 2 + i)) (μ1 (10 + 2 + i) 2)) m) rfl N 0 (-9) 0 (days 2 j (cp 1 2 μ1)) (by omega) (by omega) (by decide) (fun a h => (funext fun b => days_c h j).trans (cp_row h))
    have eF : mxZ (grF j (fun i => μ1 (10 + 2 + i))) (m - 0) 0 (-9) 0 = mxZ (grF j (fun i => μ (10 + 2 + i))) (m - 0) 0 (-9) 0 := by
      have : ∀ k p who most, p + k ≤ m → mxZ (grF j (fun i => μ1 (10 + 2 + i))) k p who most = mxZ (grF j (fun i => μ (10 + 2 + i))) k p who most := by
        intro k
        induction k with
        | zero => intro p who most _; rfl
        | succ k ih =>
          intro p who most h
          have ef : grF j (fun i => μ1 (10 + 2 + i)) p = grF j (fun i => μ (10 + 2 + i)) p := by
            unfold grF
            dsimp only
            rw [hpp p (by omega)]
          rw [mxZ, mxZ, ef, ih (p + 1) _ _ (by omega), ih (p + 1) _ _ (by omega)]
      exact this _ _ _ _ (by omega)
    rw [eF, Int.add_zero, show ((0 : Nat) : Int) = 0 from rfl] at e5
    rw [show ((0 : Nat) : Int) = 0 from rfl] at e4
    refine ⟨mxZ (grF j (fun i => μ (10 + 2 + i))) (m - 0) 0 (-9) 0, μ1, μ2, ?_, ?_, Rel_m R (fun a h43 h2 h4 => (f5 a h2).trans (f4 a h43))⟩
    · simp only [M4_grain]
      rw [M4_outside_eq N hn (by decide) (by decide), Option.bind_some, o, if_pos (by decide), if_pos rfl]
      exact e4
    · simp only [M5_grain]
      rw [M5_wrongBy_eq N hn (by decide) (by decide), Option.bind_some, o, if_pos (by decide), if_pos rfl, M5_copies_eq N 1 2 (by omega) (by decide), Option.bind_some, eB, Option.bind_some]
      dsimp only
      rw [eB']
      exact e5
  · refine Op_ref N R (c := outZ n 1 30) (by omega) ?_ (fun ν _ => ?_)
    · simp only [M4_grain]
      rw [M4_outside_eq N hn (by decide) (by decide), Option.bind_some, if_pos (show inR (outZ n 1 30) by omega), if_neg o, rf4 N ho]
    · simp only [M5_grain]
      rw [M5_wrongBy_eq N hn (by decide) (by decide), Option.bind_some, if_pos (show inR (outZ n 1 30) by omega), if_neg o, rf5 N ho]
end
section
/-! sweep -/
def mnZ (f h : Nat → Int) (w : Int) : Nat → Nat → Int → Int → Int
  | 0, _, who, few => if w = 0 then who else few
  | k + 1, p, who, few => if h p = 0 then mnZ f h w k (p + 1) who few else if who < 0 ∨ f p < few then mnZ f h w k (p + 1) (p : Int) (f p) else mnZ f h w k (p + 1) who few
def swF (n : Nat) (Q : Nat → Nat → Int) (p : Nat) : Int := shn n (Q p) 0 - shn n (Q p) (Q p 2)
def swI (who few : Int) : Prop := (who = -9 ∧ few = -9) ∨ (0 ≤ who ∧ who < 8 ∧ -999 ≤ few ∧ few ≤ 999)
theorem swF_in (n : Nat) {Q : Nat → Nat → Int} {p : Nat} (h : okP (Q p)) : -999 ≤ swF n Q p ∧ swF n Q p ≤ 999 := by
  have h2 := h.2.2.1
  have a := shn_in h (v := 0) (by decide) n
  have b := shn_in h (v := Q p 2) h2 n
  unfold swF
  omega
theorem sweep4 (N : Nat) (hN : 200 ≤ N) {μ : mm} (a1 : relO 10 1 μ) (a2 : okR μ 1) (n : Nat) (hn : n ≤ 100) (m : Nat) (hm : (m : Int) = μ 1 0) {w : Int} (hw : inR w) : ∀ (k p : Nat) (who few : Int) (ν : mm), p ≤ m → m < p + k → swI who few → (∀ a, a ≠ 43 → ν a = μ a) →
    ∃ ν', L4_sweep_38 N k (n : Int) w who few (p : Int) ν = some (mnZ (swF n (fun j => μ (10 + 2 + j))) (fun j => μ (10 + 2 + j) 2) w (m - p) p who few, ν') ∧ ∀ a, a ≠ 43 → ν' a = μ a := by
  have h8 := a2.1
  intro k
  induction k with
  | zero => intro p who few ν h1 h2; omega
  | succ k ih =>
    intro p who few ν h1 h2 hI hf
    have e10 : ν 10 2 = (m : Int) := by rw [hf 10 (by decide), a1.1, hm]
    rw [L4_sweep_38, e10, if_pos (show inR (p : Int) ∧ inR (m : Int) by omega)]
    by_cases c : (m : Int) ≤ (p : Int)
    · rw [if_pos c, show m - p = 0 by omega, if_pos hw, mnZ]
      by_cases d : w = 0
      · rw [if_pos d, if_pos d]
        exact ⟨ν, rfl, hf⟩
      · rw [if_neg d, if_neg d]
        exact ⟨ν, rfl, hf⟩
    · have hp8 : p < 8 := by omega
      have hq : okP (μ (10 + 2 + p)) := offP a1 a2 (by omega)
      have hq2 := hq.2.2.1
      have ep : ν (10 + 2 + p) = μ (10 + 2 + p) := hf _ (by omega)
      have hF := swF_in n (Q := fun j => μ (10 + 2 + j)) (p := p) hq
      rw [if_neg c, M1_at_eq N 10 p hp8, Option.bind_some, if_pos (kdo (Or.inl rfl) hp8)]
      simp only [bnd]
      rw [ep, if_pos (show inR (μ (10 + 2 + p) 2) by omega), show m - p = (m - (p + 1)) + 1 by omega, mnZ]
      simp only [J4_sweep_104, J4_sweep_112]
      by_cases d : μ (10 + 2 + p) 2 = 0
      · rw [if_pos d, if_pos d]
        exact ih (p + 1) who few ν (by omega) (by omega) hI hf
      · obtain ⟨T, eT⟩ := shortMore_eq N hp8 ep hq (has := 0) (by decide) n hn hN
        have hf1 : ∀ a, a ≠ 43 → putC ν 43 T a = μ a := fun a h => (putC_row h).trans (hf a h)
        obtain ⟨T', eT'⟩ := shortMore_eq N hp8 (hf1 (10 + 2 + p) (by omega)) hq (has := μ (10 + 2 + p) 2) hq2 n hn hN
        have hf2 : ∀ a, a ≠ 43 → putC (putC ν 43 T) 43 T' a = μ a := fun a h => (putC_row h).trans (hf1 a h)
        have eF : shn n (μ (10 + 2 + p)) 0 - shn n (μ (10 + 2 + p)) (μ (10 + 2 + p) 2) = swF n (fun j => μ (10 + 2 + j)) p := rfl
        rw [if_neg d, if_neg d, eT, Option.bind_some]
        dsimp only
        rw [eT', Option.bind_some]
        dsimp only
        rw [eF]
        rcases hI with ⟨rfl, rfl⟩ | ⟨i1, i2, i3, i4⟩
        · rw [if_pos (by decide), if_pos (by decide), if_pos (Or.inl (by decide))]
          exact ih (p + 1) (p : Int) _ _ (by omega) (by omega) (Or.inr (by omega)) hf2
        · rw [if_pos (show inR who by omega), if_neg (show ¬ who < 0 by omega), if_pos (show inR (swF n (fun j => μ (10 + 2 + j)) p) ∧ inR few by omega)]
          by_cases g : few ≤ swF n (fun j => μ (10 + 2 + j)) p
          · rw [if_pos g, if_neg (by omega)]
            exact ih (p + 1) who few _ (by omega) (by omega) (Or.inr (by omega)) hf2
          · rw [if_neg g, if_pos (by omega)]
            exact ih (p + 1) (p : Int) _ _ (by omega) (by omega) (Or.inr (by omega)) hf2
theorem sweep5 (N : Nat) (hN : 200 ≤ N) {μ : mm} (a1 : relO 10 1 μ) (a2 : okR μ 1) (a3 : μ 1 1 ≤ 999) (n : Nat) (hn : n ≤ 100) (m : Nat) (hm : (m : Int) = μ 1 0) {w : Int} (hw : inR w) (B : Int) (hB : B = sumN (fun j => dayI n (μ (10 + 2 + j)) 5) m) : ∀ (k p : Nat) (who few : Int) (ν : mm), p ≤ m → m < p + k → swI who few → (∀ a, a ≠ 2 → ν a = μ a) →
    ∃ ν', L5_sweep_60 N k (n : Int) w B who (if who < 0 then 1000000000 else few) (p : Int) ν = some (mnZ (swF n (fun j => μ (10 + 2 + j))) (fun j => μ (10 + 2 + j) 2) w (m - p) p who few, ν') ∧ ∀ a, a ≠ 2 → ν' a = μ a := by
  have h8 := a2.1
  intro k
  induction k with
  | zero => intro p who few ν h1 h2; omega
  | succ k ih =>
    intro p who few ν h1 h2 hI hf
    have e1 := hf 1 (by decide)
    have e10 : ν 1 0 = (m : Int) := by rw [e1, hm]
    rw [L5_sweep_60, e10, if_pos (show inR (p : Int) ∧ inR (m : Int) by omega)]
    by_cases c : (m : Int) ≤ (p : Int)
    · rw [if_pos c, show m - p = 0 by omega, mnZ]
      rcases hI with ⟨rfl, rfl⟩ | ⟨i1, i2, i3, i4⟩
      · rw [if_pos (by decide), if_pos (by decide), ite_self]
        exact ⟨ν, rfl, hf⟩
      · rw [if_pos (show inR who by omega), if_neg (show ¬ who < 0 by omega), if_pos hw, if_neg (show ¬ who < 0 by omega)]
        by_cases d : w = 0
        · rw [if_pos d, if_pos d]
          exact ⟨ν, rfl, hf⟩
        · rw [if_neg d, if_neg d]
          exact ⟨ν, rfl, hf⟩
    · have hp8 : p < 8 := by omega
      have hq : okP (μ (10 + 2 + p)) := offP a1 a2 (by omega)
      have hq2 := hq.2.2.1
      have hF := swF_in n (Q := fun j => μ (10 + 2 + j)) (p := p) hq
      have h61 : at6 ν 1 p (μ (10 + 2 + p)) := by intro k hk; rw [e1]; exact a1.2.2.2.2 p (by omega) k hk
      rw [if_neg c, if_pos (ixg hp8 (by decide)), ix2, h61 2 (by decide), if_pos (show inR (μ (10 + 2 + p) 2) by omega), show m - p = (m - (p + 1)) + 1 by omega, mnZ]
      simp only [J5_sweep_147]
      by_cases d : μ (10 + 2 + p) 2 = 0
      · rw [if_pos d, if_pos d]
        exact ih (p + 1) who few ν (by omega) (by omega) hI hf
      · obtain ⟨s1, s2, s3, s4, s5, s6⟩ := cpS a1 a2 e1
        have h62 := s6 p (by omega)
        have o2 := a2.2.2.1
        have o3 := s1.2.2.2.1
        have okp := okR_putP (p := p) s1 (okP_has hq (show (0 : Int) ≤ 0 ∧ (0 : Int) ≤ 99 by decide))
        rw [if_neg d, if_neg d, M5_copies_eq N 1 2 (by omega) (by decide), Option.bind_some, M5_handsIn_eq N 2 p hp8 (cp 1 2 ν) (by rw [s4]; exact o2) (by rw [h62 2 (by decide)]; exact hq2) o3, Option.bind_some, h62 2 (by decide), set2 h62]
        generalize hS : min 999 (cp 1 2 ν 2 2 + μ (10 + 2 + p) 2) = S
        generalize hW : min 9999 (cp 1 2 ν 2 3 + max 0 (cp 1 2 ν 2 2 + μ (10 + 2 + p) 2 - 999)) = W
        have hX : ∀ b, 4 ≤ b → mu (mu (putP (cp 1 2 ν) 2 p (fu (μ (10 + 2 + p)) 2 0)) 2 2 S) 2 3 W 2 b = putP (cp 1 2 ν) 2 p (fu (μ (10 + 2 + p)) 2 0) 2 b := fun b hb => by rw [mu_j (by omega), mu_j (by omega)]
        have x0 : mu (mu (putP (cp 1 2 ν) 2 p (fu (μ (10 + 2 + p)) 2 0)) 2 2 S) 2 3 W 2 0 = μ 1 0 := by rw [mu_j (by decide), mu_j (by decide), putP_lo (by decide), s2]
        have x1 : mu (mu (putP (cp 1 2 ν) 2 p (fu (μ (10 + 2 + p)) 2 0)) 2 2 S) 2 3 W 2 1 = μ 1 1 := by rw [mu_j (by decide), mu_j (by decide), putP_lo (by decide), s3]
        have okx : okR (mu (mu (putP (cp 1 2 ν) 2 p (fu (μ (10 + 2 + p)) 2 0)) 2 2 S) 2 3 W) 2 := by
          refine ⟨by rw [x0]; exact h8, by rw [x1]; exact a2.2.1, by rw [mu_j (by decide), mu_s]; omega, by rw [mu_s]; omega, fun i hi => ?_⟩
          rw [x0] at hi
          refine okP_congr (okp.2.2.2.2 i (by rw [putP_lo (by decide), s2]; exact hi)) (fun k hk => ?_)
          exact hX _ (by omega)
        have hrow : ∀ a, a ≠ 2 → mu (mu (putP (cp 1 2 ν) 2 p (fu (μ (10 + 2 + p)) 2 0)) 2 2 S) 2 3 W a = μ a := fun a h => by rw [mu_row h, mu_row h, putP_row h, cp_row h, hf a h]
        have hAt : ∀ j, j < m → at6 (mu (mu (putP (cp 1 2 ν) 2 p (fu (μ (10 + 2 + p)) 2 0)) 2 2 S) 2 3 W) 2 j (if j = p then fu (μ (10 + 2 + p)) 2 0 else μ (10 + 2 + j)) := fun j hj k hk => (hX _ (by omega)).trans (putP_all (m := m) (fun j hj => s6 j (by omega)) j hj k hk)
        generalize mu (mu (putP (cp 1 2 ν) 2 p (fu (μ (10 + 2 + p)) 2 0)) 2 2 S) 2 3 W = χ at x0 x1 okx hrow hAt
        have okd := days_ok okx n (by omega)
        have eA := M5_allOf_eq N 2 5 (by decide) (by omega) (μ := days 2 n χ) okd.1
        have sA : sumN (fun p => days 2 n χ 2 (4 + 6 * p + 5)) (days 2 n χ 2 0).toNat = B + swF n (fun j => μ (10 + 2 + j)) p := by
          rw [days_many, x0, ← hm, Int.toNat_natCast, sumN_congr (g := fun j => dayI n (if j = p then fu (μ (10 + 2 + p)) 2 0 else μ (10 + 2 + j)) 5) m (fun i hi => days_at (by omega) (hAt i hi) n 5 (by decide)), sumN_upd (p := p) (g := fun j => dayI n (μ (10 + 2 + j)) 5) (fun j hj => by rw [if_neg hj]) m (by omega), if_pos rfl, hB]
          show _ = _ + ((dayI n (fu (μ (10 + 2 + p)) 2 0) 5 - μ (10 + 2 + p) 5) - (dayI n (fu (μ (10 + 2 + p)) 2 (μ (10 + 2 + p) 2)) 5 - μ (10 + 2 + p) 5))
          rw [fu_self]
          omega
        rw [show ((5 : Nat) : Int) = 5 from rfl, sA] at eA
        rw [M5_daysOn_eq N 2 (by omega) okx n (by omega) (by omega), Option.bind_some, eA, Option.bind_some]
        simp only [bnd]
        rw [show B + swF n (fun j => μ (10 + 2 + j)) p - B = swF n (fun j => μ (10 + 2 + j)) p by omega]
        have ct2 : ∀ a, a ≠ 2 → days 2 n χ a = μ a := fun a h => (funext fun b => days_c h n).trans (hrow a h)
        have go := fun who' few' hI' => ih (p + 1) who' few' (days 2 n χ) (by omega) (by omega) hI' ct2
        have gp := go (p : Int) (swF n (fun j => μ (10 + 2 + j)) p) (Or.inr (by omega))
        rw [if_neg (show ¬ (p : Int) < 0 by omega)] at gp
        rcases hI with ⟨rfl, rfl⟩ | ⟨i1, i2, i3, i4⟩
        · rw [if_pos (show ((-9 : Int)) < 0 by decide), if_pos (show inR (swF n (fun j => μ (10 + 2 + j)) p) ∧ inR (1000000000 : Int) by omega), if_pos (show swF n (fun j => μ (10 + 2 + j)) p < 1000000000 by omega), if_pos (Or.inl (by decide))]
          exact gp
        · have gw := go who few (Or.inr (by omega))
          rw [if_neg (show ¬ who < 0 by omega)] at gw ⊢
          rw [if_pos (show inR (swF n (fun j => μ (10 + 2 + j)) p) ∧ inR few by omega)]
          by_cases g : swF n (fun j => μ (10 + 2 + j)) p < few
          · rw [if_pos g, if_pos (Or.inr g)]
            exact gp
          · rw [if_neg g, if_neg (by omega)]
            exact gw
theorem mnZ_congr {f f' h h' : Nat → Int} (w : Int) (m : Nat) (e : ∀ p, p < m → f p = f' p ∧ h p = h' p) : ∀ k p who few, p + k ≤ m → mnZ f h w k p who few = mnZ f' h' w k p who few := by
  intro k
  induction k with
  | zero => intro p who few _; rfl
  | succ k ih =>
    intro p who few hp
    rw [mnZ, mnZ, (e p (by omega)).1, (e p (by omega)).2, ih (p + 1) _ _ (by omega), ih (p + 1) _ _ (by omega)]
theorem op_sweep (N : Nat) (hN : 200 ≤ N) {μ : mm} (R : Rel μ) {n w : Int} (hn : inR n) (hw : inR w) : Op (M4_sweep N n w) (M5_sweep N n w) μ := by
  obtain ⟨⟨a1, a2, a3⟩, -⟩ := id R
  have hm := a2.1
  have ho := outZ_in n 1 30
  have ht := othZ_in w 1
  by_cases o : outZ n 1 30 = 0
  · have oo := outZ_0 o
    by_cases t : othZ w 1 = 0
    · have tt := othZ_0 t
      obtain ⟨j, rfl⟩ := Int.eq_ofNat_of_zero_le (show 0 ≤ n by omega)
      obtain ⟨m, hmm⟩ := Int.eq_ofNat_of_zero_le hm.1
      obtain ⟨μ1, e4, f4⟩ := sweep4 N hN a1 a2 j (by omega) m hmm.symm hw N 0 (-9) (-9) μ (by omega) (by omega) (Or.inl ⟨rfl, rfl⟩) (fun _ _ => rfl)
      obtain ⟨b1, b2⟩ := rel_of43 a1 a2 f4
      have r1 := f4 1 (by decide)
      have hpp : ∀ i : Nat, (i : Int) < μ 1 0 → μ1 (10 + 2 + i) = μ (10 + 2 + i) := fun i hi => f4 _ (by omega)
      obtain ⟨s1, s2, s3, s4, s5, s6⟩ := cpS b1 b2 (ν := μ1) rfl
      have okd := days_ok s1 j (by rw [s3, r1]; omega)
      have eA := M5_allOf_eq N 2 5 (by decide) (by omega) (μ := days 2 j (cp 1 2 μ1)) okd.1
      have sA : sumN (fun p => days 2 j (cp 1 2 μ1) 2 (4 + 6 * p + 5)) (days 2 j (cp 1 2 μ1) 2 0).toNat = sumN (fun i => dayI j (μ1 (10 + 2 + i)) 5) m := by
        rw [days_many, s2, r1, hmm, Int.toNat_natCast]
        exact sumN_congr _ (fun i hi => days_at (by rw [s2, r1]; omega) (s6 i (by rw [r1]; omega)) j 5 (by decide))
      rw [show ((5 : Nat) : Int) = 5 from rfl, sA] at eA
      obtain ⟨μ2, e5, f5⟩ := sweep5 N hN (μ := μ1) b1 b2 (by rw [r1]; exact a3) j (by omega) m (by rw [r1]; exact hmm.symm) hw _ rfl N 0 (-9) (-9) (days 2 j (cp 1 2 μ1)) (by omega) (by omega) (Or.inl ⟨rfl, rfl⟩) (fun a h => (funext fun b => days_c h j).trans (cp_row h))
      rw [mnZ_congr w m (f' := swF j (fun i => μ (10 + 2 + i))) (h' := fun i => μ (10 + 2 + i) 2) (fun p hp => by
        unfold swF
        dsimp only
        rw [hpp p (by omega)]
        exact ⟨rfl, rfl⟩) _ _ _ _ (by omega), if_pos (show ((-9 : Int)) < 0 by decide), show ((0 : Nat) : Int) = 0 from rfl] at e5
      rw [show ((0 : Nat) : Int) = 0 from rfl] at e4
      refine ⟨mnZ (swF j (fun i => μ (10 + 2 + i))) (fun i => μ (10 + 2 + i) 2) w (m - 0) 0 (-9) (-9), μ1, μ2, ?_, ?_, Rel_m R (fun a h43 h2 h4 => (f5 a h2).trans (f4 a h43))⟩
      · simp only [M4_sweep]
        rw [M4_outside_eq N hn (by decide) (by decide), Option.bind_some, M4_other_eq N hw (by decide), Option.bind_some, M4_firstOf_eq N ho ht, Option.bind_some, fst0 o t, if_pos (by decide), if_pos rfl]
        exact e4
      · simp only [M5_sweep, J5_sweep_24]
        rw [M5_wrongBy_eq N hn (by decide) (by decide), Option.bind_some, o, if_pos (by decide), if_pos rfl, M5_isIn_eq N hw (by decide) (by decide), Option.bind_some, if_pos tt, if_pos (by decide), if_neg (by decide), if_pos (by decide), if_pos rfl, M5_takes_eq N (by omega) b2 (by rw [r1]; exact a3) j (by omega), Option.bind_some, eA, Option.bind_some]
        exact e5
    · obtain ⟨t1, t2⟩ := oth_no t
      refine Op_ref N R (c := -2) (by decide) ?_ (fun ν _ => ?_)
      · simp only [M4_sweep]
        rw [M4_outside_eq N hn (by decide) (by decide), Option.bind_some, M4_other_eq N hw (by decide), Option.bind_some, M4_firstOf_eq N ho ht, Option.bind_some, fst2 o t, t1, if_pos (by decide), if_neg (by decide), rf4 N (by decide)]
      · simp only [M5_sweep, J5_sweep_24]
        rw [M5_wrongBy_eq N hn (by decide) (by decide), Option.bind_some, o, if_pos (by decide), if_pos rfl, M5_isIn_eq N hw (by decide) (by decide), Option.bind_some, if_neg t2, if_pos (by decide), if_pos rfl, if_pos (by decide), if_neg (by decide), rf5 N (by decide)]
  · refine Op_ref N R (c := outZ n 1 30) (by omega) ?_ (fun ν _ => ?_)
    · simp only [M4_sweep]
      rw [M4_outside_eq N hn (by decide) (by decide), Option.bind_some, M4_other_eq N hw (by decide), Option.bind_some, M4_firstOf_eq N ho ht, Option.bind_some, fst1 o, if_pos (show inR (outZ n 1 30) by omega), if_neg o, rf4 N ho]
    · simp only [M5_sweep, J5_sweep_24]
      rw [M5_wrongBy_eq N hn (by decide) (by decide), Option.bind_some, if_pos (show inR (outZ n 1 30) by omega), if_neg o, if_pos (show inR (outZ n 1 30) by omega), if_neg o, rf5 N ho]
end
section
/-! borrow -/
def boZ (f : Nat → Int) (g : Nat → Prop) [DecidablePred g] : Nat → Nat → Int → Int → Int
  | 0, _, who, _ => who
  | k + 1, p, who, most => if g p then (if f p ≤ most then boZ f g k (p + 1) who most else boZ f g k (p + 1) (p : Int) (f p)) else boZ f g k (p + 1) who most
def boF (n : Nat) (Q : Nat → Nat → Int) (i : Nat) (l : Int) (p : Nat) : Int := (thn n (Q i) (Q i 2 + l) - thn n (Q i) (Q i 2)) + thn n (Q p) (Q p 2 - l) - thn n (Q p) (Q p 2)
theorem borrow4 (N : Nat) (hN : 200 ≤ N) {μ : mm} (a1 : relO 10 1 μ) (a2 : okR μ 1) (n : Nat) (hn : n ≤ 100) (m : Nat) (hm : (m : Int) = μ 1 0) (i : Nat) (hi : i < m) (l : Int) (hl : 1 ≤ l ∧ μ (10 + 2 + i) 2 + l ≤ 99) : ∀ (k p : Nat) (who most : Int) (ν : mm), p ≤ m → m < p + k → (0 ≤ most ∧ most ≤ 4000) → (∀ a, a ≠ 43 → ν a = μ a) →
    ∃ ν', L4_borrow_103 N k (i : Int) (n : Int) l (thn n (μ (10 + 2 + i)) (μ (10 + 2 + i) 2 + l) - thn n (μ (10 + 2 + i)) (μ (10 + 2 + i) 2)) who most (p : Int) ν = some (boZ (boF n (fun j => μ (10 + 2 + j)) i l) (fun p => p ≠ i ∧ l ≤ μ (10 + 2 + p) 2) (m - p) p who most, ν') ∧ ∀ a, a ≠ 43 → ν' a = μ a := by
  have h8 := a2.1
  have hqi : okP (μ (10 + 2 + i)) := offP a1 a2 (by omega)
  have hqi2 := hqi.2.2.1
  have g1 := thn_in hqi (v := μ (10 + 2 + i) 2 + l) (by omega) n
  have g2 := thn_in hqi hqi2 n
  intro k
  induction k with
  | zero => intro p who most ν h1 h2; omega
  | succ k ih =>
    intro p who most ν h1 h2 hmo hf
    have e10 : ν 10 2 = (m : Int) := by rw [hf 10 (by decide), a1.1, hm]
    rw [L4_borrow_103, e10, if_pos (show inR (p : Int) ∧ inR (m : Int) by omega)]
    by_cases c : (m : Int) ≤ (p : Int)
    · rw [if_pos c, show m - p = 0 by omega]
      exact ⟨ν, rfl, hf⟩
    · have hp8 : p < 8 := by omega
      have hq : okP (μ (10 + 2 + p)) := offP a1 a2 (by omega)
      have hq2 := hq.2.2.1
      have ep : ν (10 + 2 + p) = μ (10 + 2 + p) := hf _ (by omega)
      rw [if_neg c, M1_at_eq N 10 p hp8, Option.bind_some, if_pos (kdo (Or.inl rfl) hp8)]
      simp only [bnd]
      rw [ep, if_pos (show inR (p : Int) ∧ inR (i : Int) by omega), show m - p = (m - (p + 1)) + 1 by omega, boZ]
      simp only [J4_borrow_187]
      by_cases d : (p : Int) = (i : Int)
      · rw [if_pos d, if_neg (show ¬ (p ≠ i ∧ l ≤ μ (10 + 2 + p) 2) by omega)]
        exact ih (p + 1) who most ν (by omega) (by omega) hmo hf
      · rw [if_neg d, if_pos (show inR (μ (10 + 2 + p) 2) ∧ inR l by omega)]
        by_cases f : l ≤ μ (10 + 2 + p) 2
        · have t1 := thn_in hq (v := μ (10 + 2 + p) 2 - l) (by omega) n
          have t2 := thn_in hq hq2 n
          obtain ⟨T, eT⟩ := throughMore_eq N hp8 ep hq (has := μ (10 + 2 + p) 2 - l) (by omega) n hn hN
          have hf1 : ∀ a, a ≠ 43 → putC ν 43 T a = μ a := fun a h => (putC_row h).trans (hf a h)
          obtain ⟨T', eT'⟩ := throughMore_eq N hp8 (hf1 (10 + 2 + p) (by omega)) hq (has := μ (10 + 2 + p) 2) hq2 n hn hN
          have hf2 : ∀ a, a ≠ 43 → putC (putC ν 43 T) 43 T' a = μ a := fun a h => (putC_row h).trans (hf1 a h)
          have eF : (thn n (μ (10 + 2 + i)) (μ (10 + 2 + i) 2 + l) - thn n (μ (10 + 2 + i)) (μ (10 + 2 + i) 2)) + thn n (μ (10 + 2 + p)) (μ (10 + 2 + p) 2 - l) - thn n (μ (10 + 2 + p)) (μ (10 + 2 + p) 2) = boF n (fun j => μ (10 + 2 + j)) i l p := rfl
          have hF : -4000 ≤ boF n (fun j => μ (10 + 2 + j)) i l p ∧ boF n (fun j => μ (10 + 2 + j)) i l p ≤ 4000 := by omega
          rw [if_pos f, if_pos (show p ≠ i ∧ l ≤ μ (10 + 2 + p) 2 by omega), eT, Option.bind_some]
          dsimp only
          rw [eT', Option.bind_some]
          dsimp only
          rw [eF, if_pos (show inR (boF n (fun j => μ (10 + 2 + j)) i l p) ∧ inR most by omega)]
          by_cases g : boF n (fun j => μ (10 + 2 + j)) i l p ≤ most
          · rw [if_pos g, if_pos g]
            exact ih (p + 1) who most _ (by omega) (by omega) hmo hf2
          · rw [if_neg g, if_neg g]
            exact ih (p + 1) (p : Int) _ _ (by omega) (by omega) (by omega) hf2
        · rw [if_neg f, if_neg (show ¬ (p ≠ i ∧ l ≤ μ (10 + 2 + p) 2) by omega)]
          exact ih (p + 1) who most ν (by omega) (by omega) hmo hf
theorem borrow5 (N : Nat) (hN : 200 ≤ N) {μ : mm} (a1 : relO 10 1 μ) (a2 : okR μ 1) (a3 : μ 1 1 ≤ 999) (n : Nat) (hn : n ≤ 99) (m : Nat) (hm : (m : Int) = μ 1 0) (i : Nat) (hi : i < m) (l : Int) (hl : 1 ≤ l ∧ μ (10 + 2 + i) 2 + l ≤ 99) : ∀ (k p : Nat) (who most : Int) (ν : mm), p ≤ m → m < p + k → (0 ≤ most ∧ most ≤ 4000) → (∀ a, a ≠ 2 → ν a = μ a) →
    ∃ ν', L5_borrow_50 N k (i : Int) (n : Int) l who most (p : Int) ν = some (boZ (boF n (fun j => μ (10 + 2 + j)) i l) (fun p => p ≠ i ∧ l ≤ μ (10 + 2 + p) 2) (m - p) p who most, ν') ∧ ∀ a, a ≠ 2 → ν' a = μ a := by
  have h8 := a2.1
  have hi8 : i < 8 := by omega
  have hqi : okP (μ (10 + 2 + i)) := offP a1 a2 (by omega)
  have hqi2 := hqi.2.2.1
  have g1 := thn_in hqi (v := μ (10 + 2 + i) 2 + l) (by omega) n
  have g2 := thn_in hqi hqi2 n
  intro k
  induction k with
  | zero => intro p who most ν h1 h2; omega
  | succ k ih =>
    intro p who most ν h1 h2 hmo hf
    have e1 := hf 1 (by decide)
    have e10 : ν 1 0 = (m : Int) := by rw [e1, hm]
    rw [L5_borrow_50, e10, if_pos (show inR (p : Int) ∧ inR (m : Int) by omega)]
    by_cases c : (m : Int) ≤ (p : Int)
    · rw [if_pos c, show m - p = 0 by omega]
      exact ⟨ν, rfl, hf⟩
    · have hp8 : p < 8 := by omega
      have hq : okP (μ (10 + 2 + p)) := offP a1 a2 (by omega)
      have hq2 := hq.2.2.1
      have h61 : at6 ν 1 p (μ (10 + 2 + p)) := by intro k hk; rw [e1]; exact a1.2.2.2.2 p (by omega) k hk
      rw [if_neg c, if_pos (show inR l by omega), if_neg (show ¬ l ≤ 0 by omega), if_pos (show inR (p : Int) ∧ inR (i : Int) by omega), show m - p = (m - (p + 1)) + 1 by omega, boZ]
      simp only [J5_borrow_211, bnd]
      by_cases d : (p : Int) = (i : Int)
      · rw [if_pos d, if_neg (show ¬ (p ≠ i ∧ l ≤ μ (10 + 2 + p) 2) by omega)]
        exact ih (p + 1) who most ν (by omega) (by omega) hmo hf
      · rw [if_neg d, if_pos (ixg hp8 (by decide))]
        simp only [ix2]
        rw [h61 2 (by decide), if_pos (show inR (μ (10 + 2 + p) 2) ∧ inR l by omega)]
        by_cases f : l ≤ μ (10 + 2 + p) 2
        · have t1 := thn_in hq (v := μ (10 + 2 + p) 2 - l) (by omega) n
          have t2 := thn_in hq hq2 n
          obtain ⟨s1, s2, s3, s4, s5, s6⟩ := cpS a1 a2 e1
          have D : ∀ a, a ≠ 2 → days 2 n (cp 1 2 ν) a = μ a := fun a h => (funext fun b => days_c h n).trans ((cp_row h).trans (hf a h))
          have d6 : ∀ j, j < m → at6 (days 2 n (cp 1 2 ν)) 2 j (dayI n (μ (10 + 2 + j))) := fun j hj => days_at (by omega) (s6 j (by omega)) n
          have d1 : ∀ j, j < m → at6 (days 2 n (cp 1 2 ν)) 1 j (μ (10 + 2 + j)) := fun j hj => by
            intro k hk
            rw [D 1 (by decide)]
            exact a1.2.2.2.2 j (by omega) k hk
          have T1 := M5_throughOf_eq N hi8 (d6 i hi) (d1 i hi)
          have T2 := M5_throughOf_eq N hp8 (d6 p (by omega)) (d1 p (by omega))
          generalize hχ : days 2 n (cp 1 2 ν) = χ at D T1 T2
          obtain ⟨r1, r2, r3, r4, r5, r6⟩ := cpS a1 a2 (D 1 (by decide))
          have hpi : p ≠ i := by omega
          have c6 := r6 p (by omega)
          have okp := okP_has hq (show 0 ≤ μ (10 + 2 + p) 2 - l ∧ μ (10 + 2 + p) 2 - l ≤ 99 by omega)
          have oki := okP_has hqi (show 0 ≤ μ (10 + 2 + i) 2 + l ∧ μ (10 + 2 + i) 2 + l ≤ 99 by omega)
          have i6 : at6 (putP (cp 1 2 χ) 2 p (fu (μ (10 + 2 + p)) 2 (μ (10 + 2 + p) 2 - l))) 2 i (μ (10 + 2 + i)) := putP_ne (r6 i (by omega)) (fun z => hpi z.symm)
          have okZ := okR_putP (p := i) (okR_putP (p := p) r1 okp) oki
          have Z6p : at6 (putP (putP (cp 1 2 χ) 2 p (fu (μ (10 + 2 + p)) 2 (μ (10 + 2 + p) 2 - l))) 2 i (fu (μ (10 + 2 + i)) 2 (μ (10 + 2 + i) 2 + l))) 2 p (fu (μ (10 + 2 + p)) 2 (μ (10 + 2 + p) 2 - l)) := putP_ne putP_at hpi
          have Z6i : at6 (putP (putP (cp 1 2 χ) 2 p (fu (μ (10 + 2 + p)) 2 (μ (10 + 2 + p) 2 - l))) 2 i (fu (μ (10 + 2 + i)) 2 (μ (10 + 2 + i) 2 + l))) 2 i (fu (μ (10 + 2 + i)) 2 (μ (10 + 2 + i) 2 + l)) := putP_at
          have Z0 : putP (putP (cp 1 2 χ) 2 p (fu (μ (10 + 2 + p)) 2 (μ (10 + 2 + p) 2 - l))) 2 i (fu (μ (10 + 2 + i)) 2 (μ (10 + 2 + i) 2 + l)) 2 0 = μ 1 0 := by rw [putP_lo (by decide), putP_lo (by decide), r2]
          have Z1 : putP (putP (cp 1 2 χ) 2 p (fu (μ (10 + 2 + p)) 2 (μ (10 + 2 + p) 2 - l))) 2 i (fu (μ (10 + 2 + i)) 2 (μ (10 + 2 + i) 2 + l)) 2 1 = μ 1 1 := by rw [putP_lo (by decide), putP_lo (by decide), r3]
          have Zr : ∀ a, a ≠ 2 → putP (putP (cp 1 2 χ) 2 p (fu (μ (10 + 2 + p)) 2 (μ (10 + 2 + p) 2 - l))) 2 i (fu (μ (10 + 2 + i)) 2 (μ (10 + 2 + i) 2 + l)) a = μ a := fun a h => by rw [putP_row h, putP_row h, cp_row h, D a h]
          have E : mu (mu (cp 1 2 χ) 2 (4 + 6 * p + 2) (μ (10 + 2 + p) 2 - l)) 2 (4 + 6 * i + 2) (mu (cp 1 2 χ) 2 (4 + 6 * p + 2) (μ (10 + 2 + p) 2 - l) 2 (4 + 6 * i + 2) + l) = putP (putP (cp 1 2 χ) 2 p (fu (μ (10 + 2 + p)) 2 (μ (10 + 2 + p) 2 - l))) 2 i (fu (μ (10 + 2 + i)) 2 (μ (10 + 2 + i) 2 + l)) := by
            rw [set2 c6, i6 2 (by decide), set2 i6]
          rw [if_pos f, if_pos (show p ≠ i ∧ l ≤ μ (10 + 2 + p) 2 by omega), M5_takes_eq N (by omega) (okR_congr a2 e1) (by rw [e1]; exact a3) n hn, Option.bind_some, hχ, T1, Option.bind_some, T2, Option.bind_some, M5_copies_eq N 1 2 (by omega) (by decide), Option.bind_some, if_pos (ixg hp8 (by decide)), if_pos (ixg hp8 (by decide)), if_pos (ixg hi8 (by decide)), if_pos (ixg hi8 (by decide)), c6 2 (by decide), E]
          generalize putP (putP (cp 1 2 χ) 2 p (fu (μ (10 + 2 + p)) 2 (μ (10 + 2 + p) 2 - l))) 2 i (fu (μ (10 + 2 + i)) 2 (μ (10 + 2 + i) 2 + l)) = ζ at okZ Z6p Z6i Z0 Z1 Zr
          have D' : ∀ a, a ≠ 2 → days 2 n ζ a = μ a := fun a h => (funext fun b => days_c h n).trans (Zr a h)
          have d1' : ∀ j, j < m → at6 (days 2 n ζ) 1 j (μ (10 + 2 + j)) := fun j hj => by
            intro k hk
            rw [D' 1 (by decide)]
            exact a1.2.2.2.2 j (by omega) k hk
          have U1 := M5_throughOf_eq N hi8 (days_at (by omega) Z6i n) (d1' i hi)
          have U2 := M5_throughOf_eq N hp8 (days_at (by omega) Z6p n) (d1' p (by omega))
          rw [M5_daysOn_eq N 2 (by omega) okZ n (by omega) (by omega), Option.bind_some, U1, Option.bind_some, U2, Option.bind_some]
          have eW : ((dayI n (fu (μ (10 + 2 + i)) 2 (μ (10 + 2 + i) 2 + l)) 4 - μ (10 + 2 + i) 4) + (dayI n (fu (μ (10 + 2 + p)) 2 (μ (10 + 2 + p) 2 - l)) 4 - μ (10 + 2 + p) 4)) - ((dayI n (μ (10 + 2 + i)) 4 - μ (10 + 2 + i) 4) + (dayI n (μ (10 + 2 + p)) 4 - μ (10 + 2 + p) 4)) = boF n (fun j => μ (10 + 2 + j)) i l p := by
            unfold boF thn
            dsimp only
            rw [fu_self, fu_self]
            omega
          have hF : -4000 ≤ boF n (fun j => μ (10 + 2 + j)) i l p ∧ boF n (fun j => μ (10 + 2 + j)) i l p ≤ 4000 := by
            unfold boF
            dsimp only
            omega
          rw [eW, if_pos (show inR (boF n (fun j => μ (10 + 2 + j)) i l p) ∧ inR most by omega)]
          by_cases g : boF n (fun j => μ (10 + 2 + j)) i l p ≤ most
          · rw [if_neg (show ¬ most < boF n (fun j => μ (10 + 2 + j)) i l p by omega), if_pos g]
            exact ih (p + 1) who most _ (by omega) (by omega) hmo D'
          · rw [if_pos (show most < boF n (fun j => μ (10 + 2 + j)) i l p by omega), if_neg g]
            exact ih (p + 1) (p : Int) _ _ (by omega) (by omega) (by omega) D'
        · rw [if_neg f, if_neg (show ¬ (p ≠ i ∧ l ≤ μ (10 + 2 + p) 2) by omega)]
          exact ih (p + 1) who most ν (by omega) (by omega) hmo hf
theorem boZ_congr {f f' : Nat → Int} {g g' : Nat → Prop} [DecidablePred g] [DecidablePred g'] (m : Nat) (e : ∀ p, p < m → f p = f' p ∧ (g p ↔ g' p)) : ∀ k p who most, p + k ≤ m → boZ f g k p who most = boZ f' g' k p who most := by
  intro k
  induction k with
  | zero => intro p who most _; rfl
  | succ k ih =>
    intro p who most hp
    rw [boZ, boZ, (e p (by omega)).1, ih (p + 1) _ _ (by omega), ih (p + 1) _ _ (by omega)]
    by_cases c : g p
    · rw [if_pos c, if_pos ((e p (by omega)).2.mp c)]
    · rw [if_neg c, if_neg (fun z => c ((e p (by omega)).2.mpr z))]
theorem borrow50_0 (N k : Nat) {ν : mm} (h8 : 0 ≤ ν 1 0 ∧ ν 1 0 ≤ 8) (i n : Int) : L5_borrow_50 N (k + 1) i n 0 (-9) 0 0 ν = some (-9, ν) := by
  rw [L5_borrow_50, if_pos (show inR (0 : Int) ∧ inR (ν 1 0) by omega), if_pos (show inR (0 : Int) by decide), if_pos (show (0 : Int) ≤ 0 by decide), ite_self]
theorem op_borrow (N : Nat) (hN : 200 ≤ N) {μ : mm} (R : Rel μ) {p n : Int} (hp : inR p) (hn : inR n) : Op (M4_borrow N p n) (M5_borrow N p n) μ := by
  obtain ⟨⟨a1, a2, a3⟩, -⟩ := id R
  have hm := a2.1
  have hu := unkZ_in μ p
  have ho := outZ_in n 1 30
  have g19 : ∀ (ν : mm) (c : Int), -6 ≤ c ∧ c ≤ -1 → J5_borrow_19 N p n c ν = M5_no N c ν := by
    intro ν c hc
    simp only [J5_borrow_19]
    rw [if_pos (show inR c from by omega), if_neg (show ¬ c = 0 by omega), rf5 N (by omega)]
  by_cases k : unkZ μ p = 0
  · have kk := unkZ_0 k
    obtain ⟨i, rfl⟩ := Int.eq_ofNat_of_zero_le kk.1
    have hi : i < 8 := by omega
    have h6 := a1.2.2.2.2 i kk.2
    have hq := offP a1 a2 kk.2
    have hq2 := hq.2.2.1
    have hl := lackZ_in hq
    have hh := lackZ_has hq
    by_cases o : outZ n 1 30 = 0
    · have oo := outZ_0 o
      obtain ⟨j, rfl⟩ := Int.eq_ofNat_of_zero_le (show 0 ≤ n by omega)
      obtain ⟨m, hmm⟩ := Int.eq_ofNat_of_zero_le hm.1
      have e4 : M4_borrow N (i : Int) (j : Int) μ = if lackZ (μ (10 + 2 + i)) = 0 then some (-9, μ) else ((M4_throughMore N (i : Int) (μ (10 + 2 + i) 2 + lackZ (μ (10 + 2 + i))) (j : Int) μ).bind fun (q13 : (Int × mm)) => (M4_throughMore N (i : Int) (μ (10 + 2 + i) 2) (j : Int) q13.2).bind fun (q14 : (Int × mm)) => L4_borrow_103 N N (i : Int) (j : Int) (lackZ (μ (10 + 2 + i))) (q13.1 - q14.1) (-9) 0 0 q14.2) := by
        simp only [M4_borrow, bnd]
        rw [M4_unknown_eq N hp a1 a2, Option.bind_some, M4_outside_eq N hn (by decide) (by decide), Option.bind_some, M4_firstOf_eq N hu ho, Option.bind_some, fst0 k o, if_pos (by decide), if_pos rfl, M1_at_eq N 10 i hi, Option.bind_some, if_pos (kdo (Or.inl rfl) hi), Option.bind_some, if_pos (kdo (Or.inl rfl) hi), M2_lacking_eq N _ hq, Option.bind_some, if_pos (show inR (lackZ (μ (10 + 2 + i))) by omega), if_pos (show inR (μ (10 + 2 + i) 2 + lackZ (μ (10 + 2 + i))) by omega), if_pos hh]
      have e5 : ∀ ν : mm, ν 1 = μ 1 → M5_borrow N (i : Int) (j : Int) ν = L5_borrow_50 N N (i : Int) (j : Int) (lackZ (μ (10 + 2 + i))) (-9) 0 0 ν := by
        intro ν r1
        have eL := M5_lacksIn_eq N 1 i ν hi (fun k hk => by rw [r1]; exact h6 k hk) hq
        simp only [M5_borrow, J5_borrow_19]
        rw [M5_isOne_eq N hp (okR_congr a2 r1), Option.bind_some, r1, if_pos kk, if_pos (by decide), if_neg (by decide), M5_wrongBy_eq N hn (by decide) (by decide), Option.bind_some, o, if_pos (by decide), if_pos rfl, eL, Option.bind_some]
        rfl
      by_cases z : lackZ (μ (10 + 2 + i)) = 0
      · refine Op_same R (r := -9) (by rw [e4, if_pos z]) ?_
        rw [e5 μ rfl, z]
        have := borrow50_0 N (N - 1) hm (i : Int) (j : Int)
        rw [show N - 1 + 1 = N by omega] at this
        exact this
      · obtain ⟨T, eT⟩ := throughMore_eq N hi (ν := μ) rfl hq (has := μ (10 + 2 + i) 2 + lackZ (μ (10 + 2 + i))) (by omega) j (by omega) hN
        have hf1 : ∀ a, a ≠ 43 → putC μ 43 T a = μ a := fun a h => putC_row h
        obtain ⟨T', eT'⟩ := throughMore_eq N hi (hf1 (10 + 2 + i) (by omega)) hq (has := μ (10 + 2 + i) 2) hq2 j (by omega) hN
        have hf2 : ∀ a, a ≠ 43 → putC (putC μ 43 T) 43 T' a = μ a := fun a h => (putC_row h).trans (hf1 a h)
        obtain ⟨μ1, L4, f4⟩ := borrow4 N hN a1 a2 j (by omega) m hmm.symm i (by omega) (lackZ (μ (10 + 2 + i))) (by omega) N 0 (-9) 0 _ (by omega) (by omega) (by decide) hf2
        obtain ⟨b1, b2⟩ := rel_of43 a1 a2 f4
        have r1 := f4 1 (by decide)
        have hpp : ∀ i : Nat, (i : Int) < μ 1 0 → μ1 (10 + 2 + i) = μ (10 + 2 + i) := fun i hi => f4 _ (by omega)
        have hpi := hpp i kk.2
        obtain ⟨μ2, L5, f5⟩ := borrow5 N hN (μ := μ1) b1 b2 (by rw [r1]; exact a3) j (by omega) m (by rw [r1]; exact hmm.symm) i (by omega) (lackZ (μ (10 + 2 + i))) (by rw [hpi]; omega) N 0 (-9) 0 μ1 (by omega) (by omega) (by decide) (fun _ _ => rfl)
        rw [boZ_congr m (f' := boF j (fun j => μ (10 + 2 + j)) i (lackZ (μ (10 + 2 + i)))) (g' := fun p => p ≠ i ∧ lackZ (μ (10 + 2 + i)) ≤ μ (10 + 2 + p) 2) (fun p hp => by
          unfold boF
          dsimp only
          rw [hpp p (by omega), hpi]
          exact ⟨rfl, Iff.rfl⟩) _ _ _ _ (by omega), show ((0 : Nat) : Int) = 0 from rfl] at L5
        rw [show ((0 : Nat) : Int) = 0 from rfl] at L4
        refine ⟨boZ (boF j (fun j => μ (10 + 2 + j)) i (lackZ (μ (10 + 2 + i)))) (fun p => p ≠ i ∧ lackZ (μ (10 + 2 + i)) ≤ μ (10 + 2 + p) 2) (m - 0) 0 (-9) 0, μ1, μ2, ?_, ?_, Rel_m R (fun a h43 h2 h4 => (f5 a h2).trans (f4 a h43))⟩
        · rw [e4, if_neg z, eT, Option.bind_some]
          dsimp only
          rw [eT', Option.bind_some]
          exact L4
        · rw [e5 μ1 r1]
          exact L5
    · refine Op_ref N R (c := outZ n 1 30) (by omega) ?_ (fun ν hν => ?_)
      · simp only [M4_borrow]
        rw [M4_unknown_eq N hp a1 a2, Option.bind_some, M4_outside_eq N hn (by decide) (by decide), Option.bind_some, M4_firstOf_eq N hu ho, Option.bind_some, fst2 k o, if_pos (show inR (outZ n 1 30) from by omega), if_neg o, rf4 N ho]
      · have r1 : ν 1 = μ 1 := by rw [hν]; exact r4_c (by decide)
        simp only [M5_borrow]
        rw [M5_isOne_eq N hp (okR_congr a2 r1), Option.bind_some, r1, if_pos kk, if_pos (by decide), if_neg (by decide), M5_wrongBy_eq N hn (by decide) (by decide), Option.bind_some, g19 ν _ (by omega)]
  · obtain ⟨k1, k2⟩ := unkZ_no k
    refine Op_ref N R (c := -1) (by decide) ?_ (fun ν hν => ?_)
    · simp only [M4_borrow]
      rw [M4_unknown_eq N hp a1 a2, Option.bind_some, M4_outside_eq N hn (by decide) (by decide), Option.bind_some, M4_firstOf_eq N hu ho, Option.bind_some, fst1 k, k1, if_pos (by decide), if_neg (by decide), rf4 N (by decide)]
    · have r1 : ν 1 = μ 1 := by rw [hν]; exact r4_c (by decide)
      simp only [M5_borrow]
      rw [M5_isOne_eq N hp (okR_congr a2 r1), Option.bind_some, r1, if_neg k2, if_pos (by decide), if_pos rfl, g19 ν (-1) (by decide)]
end
section
/-! weigh: the class's two rows of eight; signs: the reference's issuing in mind -/
def wgB (n : Nat) (Q : Nat → Nat → Int) (p : Nat) : Int := thn n (Q p) (Q p 2)
def wgG (n : Nat) (Q : Nat → Nat → Int) (p : Nat) : Int := thn n (Q p) (Q p 2 + lackZ (Q p))
theorem wg_in (n : Nat) {Q : Nat → Nat → Int} {p : Nat} (h : okP (Q p)) : (0 ≤ wgB n Q p ∧ wgB n Q p ≤ 999) ∧ (0 ≤ wgG n Q p ∧ wgG n Q p ≤ 999) := by
  have h2 := h.2.2.1
  have hl := lackZ_in h
  have hh := lackZ_has h
  exact ⟨thn_in h h2 n, thn_in h (by omega) n⟩
theorem lackZ_0 (q : Nat → Int) : 0 ≤ lackZ q := by
  unfold lackZ
  split <;> omega
theorem weigh4 (N : Nat) (hN : 200 ≤ N) {μ : mm} (a1 : relO 10 1 μ) (a2 : okR μ 1) (n : Nat) (hn : n ≤ 100) (m : Nat) (hm : (m : Int) = μ 1 0) : ∀ (k p : Nat) (ν : mm), p ≤ m → m < p + k → (∀ a, a ≠ 43 → a ≠ 48 → a ≠ 49 → ν a = μ a) → (∀ j, j < p → ν 48 j = wgB n (fun i => μ (10 + 2 + i)) j ∧ ν 49 j = wgG n (fun i => μ (10 + 2 + i)) j) →
    ∃ ν', L4_weigh_2 N k (n : Int) (p : Int) ν = some ν' ∧ (∀ a, a ≠ 43 → a ≠ 48 → a ≠ 49 → ν' a = μ a) ∧ ∀ j, j < m → ν' 48 j = wgB n (fun i => μ (10 + 2 + i)) j ∧ ν' 49 j = wgG n (fun i => μ (10 + 2 + i)) j := by
  have h8 := a2.1
  intro k
  induction k with
  | zero => intro p ν h1 h2; omega
  | succ k ih =>
    intro p ν h1 h2 hf hw
    have e10 : ν 10 2 = (m : Int) := by rw [hf 10 (by decide) (by decide) (by decide), a1.1, hm]
    rw [L4_weigh_2, e10, if_pos (show inR (p : Int) ∧ inR (m : Int) by omega)]
    by_cases c : (m : Int) ≤ (p : Int)
    · rw [if_pos c]
      exact ⟨ν, rfl, hf, fun j hj => hw j (by omega)⟩
    · have hp8 : p < 8 := by omega
      have hq : okP (μ (10 + 2 + p)) := offP a1 a2 (by omega)
      have hq2 := hq.2.2.1
      have hl := lackZ_in hq
      have hh := lackZ_has hq
      have ep : ν (10 + 2 + p) = μ (10 + 2 + p) := hf _ (by omega) (by omega) (by omega)
      obtain ⟨T, eT⟩ := throughMore_eq N hp8 ep hq (has := μ (10 + 2 + p) 2) hq2 n hn hN
      have ep2 : mu (putC ν 43 T) 48 p (wgB n (fun i => μ (10 + 2 + i)) p) (10 + 2 + p) = μ (10 + 2 + p) := by rw [mu_row (by omega), putC_row (by omega), ep]
      obtain ⟨T', eT'⟩ := throughMore_eq N hp8 ep2 hq (has := μ (10 + 2 + p) 2 + lackZ (μ (10 + 2 + p))) (by omega) n hn hN
      rw [if_neg c, if_pos (show inR (p : Int) by omega), if_neg (show ¬ 8 ≤ (p : Int) by omega), M1_at_eq N 10 p hp8, Option.bind_some, if_pos (kdo (Or.inl rfl) hp8)]
      simp only [bnd]
      rw [Option.bind_some, if_pos (kdo (Or.inl rfl) hp8), M2_lacking_eq N _ (by rw [ep]; exact hq), Option.bind_some, ep, eT, Option.bind_some]
      dsimp only
      rw [if_pos (show 0 ≤ (p : Int) ∧ (p : Int) < 8 by omega), Int.toNat_natCast, show thn n (μ (10 + 2 + p)) (μ (10 + 2 + p) 2) = wgB n (fun i => μ (10 + 2 + i)) p from rfl, eT', Option.bind_some]
      dsimp only
      rw [if_pos (show 0 ≤ (p : Int) ∧ (p : Int) < 8 by omega), show thn n (μ (10 + 2 + p)) (μ (10 + 2 + p) 2 + lackZ (μ (10 + 2 + p))) = wgG n (fun i => μ (10 + 2 + i)) p from rfl]
      refine ih (p + 1) _ (by omega) (by omega) (fun a h43 h48 h49 => ?_) (fun j hj => ?_)
      · rw [mu_row h49, putC_row h43, mu_row h48, putC_row h43]
        exact hf a h43 h48 h49
      · constructor
        · rw [mu_c (by decide), putC_row (by decide)]
          by_cases e : j = p
          · subst e
            rw [mu_s]
          · rw [mu_j e, putC_row (by decide)]
            exact (hw j (by omega)).1
        · by_cases e : j = p
          · subst e
            rw [mu_s]
          · rw [mu_j e, putC_row (by decide), mu_c (by decide), putC_row (by decide)]
            exact (hw j (by omega)).2
theorem weighed0 (N : Nat) {ν : mm} {p : Nat} (hp : p < 8) : M4_weighed N (p : Int) 0 ν = some (ν 48 p) := by
  unfold M4_weighed
  rw [if_pos (show inR (p : Int) by omega), if_neg (show ¬ (p : Int) < 0 by omega), if_pos (show inR (p : Int) by omega), if_pos (show (p : Int) < 8 by omega), if_pos (by decide), if_pos rfl, if_pos (show 0 ≤ (p : Int) ∧ (p : Int) < 8 by omega), Int.toNat_natCast]
theorem weighed1 (N : Nat) {ν : mm} {p : Nat} (hp : p < 8) : M4_weighed N (p : Int) 1 ν = some (ν 49 p) := by
  unfold M4_weighed
  rw [if_pos (show inR (p : Int) by omega), if_neg (show ¬ (p : Int) < 0 by omega), if_pos (show inR (p : Int) by omega), if_pos (show (p : Int) < 8 by omega), if_pos (by decide), if_neg (by decide), if_pos (show 0 ≤ (p : Int) ∧ (p : Int) < 8 by omega), Int.toNat_natCast]
theorem signs5 (N : Nat) {ν : mm} {p : Nat} {q : Nat → Int} (hp : p < 8) (ok : okR ν 2) (h6 : at6 ν 2 p q) (hq : okP q) : M5_signs N (p : Int) ν = if lackZ q ≤ ν 2 2 then some (lackZ q, isR ν 2 p (lackZ q)) else some (0, ν) := by
  have hl := lackZ_in hq
  have hs := ok.2.2.1
  unfold M5_signs
  rw [M5_lacksIn_eq N 2 p ν hp h6 hq, Option.bind_some, show (if q 3 = 0 then (0 : Int) else max 0 (needsZ (q 0) (q 1) - q 2)) = lackZ q from rfl, if_pos (show inR (lackZ q) ∧ inR (ν 2 2) by omega), M5_issuesIn_eq N 2 p hp, Option.bind_some]
  rfl
theorem sg_ok {ν : mm} {p : Nat} {q : Nat → Int} {c : Prop} [Decidable c] (hc : c → lackZ q ≤ ν 2 2) (ok : okR ν 2) (hp : (p : Int) < ν 2 0) (h6 : at6 ν 2 p q) (hq : okP q) :
    okR (if c then isR ν 2 p (lackZ q) else ν) 2 ∧ (if c then isR ν 2 p (lackZ q) else ν) 2 0 = ν 2 0 ∧ (if c then isR ν 2 p (lackZ q) else ν) 2 1 = ν 2 1 ∧ (if c then isR ν 2 p (lackZ q) else ν) 2 2 = (if c then ν 2 2 - lackZ q else ν 2 2) ∧ (∀ a, a ≠ 2 → (if c then isR ν 2 p (lackZ q) else ν) a = ν a) ∧
    at6 (if c then isR ν 2 p (lackZ q) else ν) 2 p (if c then fu q 2 (q 2 + lackZ q) else q) ∧ ∀ (p' : Nat) (q' : Nat → Int), p' ≠ p → at6 ν 2 p' q' → at6 (if c then isR ν 2 p (lackZ q) else ν) 2 p' q' := by
  have hl := lackZ_in hq
  have hh := lackZ_has hq
  by_cases d : c
  · have h := hc d
    simp only [if_pos d]
    refine ⟨okR_isR ok hp (by omega) (by rw [h6 2 (by decide)]; exact hh), isR_sc (by decide) (by decide), isR_sc (by decide) (by decide), isR_2, fun a ha => isR_row ha, ?_, fun p' q' hne h' => ?_⟩
    · have := isR_at (p := p) (l := lackZ q) h6
      rw [if_pos rfl] at this
      exact this
    · have := isR_at (p := p) (l := lackZ q) h'
      rw [if_neg hne] at this
      exact this
  · simp only [if_neg d]
    refine ⟨ok, ?_, ?_, ?_, ?_, h6, fun _ _ _ h' => h'⟩ <;> first | trivial | (intros; trivial)
/-- all but scratch as in μ -/
def frB (μ ν : mm) : Prop := ∀ a, a ≠ 2 → a ≠ 43 → a ≠ 48 → a ≠ 49 → ν a = μ a
theorem Rel_frB {μ ν : mm} (R : Rel μ) (h : frB μ ν) : Rel ν := by
  refine Rel_scr R (fun a ha h0 => ?_) (fun i _ _ => by rw [h 0 (by decide) (by decide) (by decide) (by decide)])
  have := scr_ne ha
  exact h a (by omega) (by omega) (by omega) (by omega)
end
section
/-! best -/
def gvL (L : Nat → Int) (x : Nat) (s : Int) : Nat → Int
  | 0 => s
  | p + 1 => if x / 2 ^ p % 2 = 1 ∧ L p ≤ gvL L x s p then gvL L x s p - L p else gvL L x s p
theorem gvL_in {L : Nat → Int} (hL : ∀ p, 0 ≤ L p) (x : Nat) {s : Int} (hs : 0 ≤ s) : ∀ p, 0 ≤ gvL L x s p ∧ gvL L x s p ≤ s := by
  intro p
  induction p with
  | zero => exact ⟨hs, Int.le_refl _⟩
  | succ p ih =>
    have := hL p
    unfold gvL
    split <;> omega
abbrev gvn (L : Nat → Int) (x : Nat) (s : Int) (p : Nat) : Prop := x / 2 ^ p % 2 = 1 ∧ L p ≤ gvL L x s p
def bsV (n : Nat) (Q : Nat → Nat → Int) (s : Int) (x p : Nat) : Int := if gvn (fun j => lackZ (Q j)) x s p then wgG n Q p else wgB n Q p
theorem throughOf4 (N : Nat) {μ ν : mm} (a1 : relO 10 1 μ) (a2 : okR μ 1) (n : Nat) (m : Nat) (hm : (m : Int) = μ 1 0) (hf : ∀ a, a ≠ 43 → a ≠ 48 → a ≠ 49 → ν a = μ a) (hw : ∀ j, j < m → ν 48 j = wgB n (fun i => μ (10 + 2 + i)) j ∧ ν 49 j = wgG n (fun i => μ (10 + 2 + i)) j) (x : Nat) (hx : x < 256) : ∀ (k p : Nat), p ≤ m → m < p + k →
    L4_throughOf_13 N k (x : Int) (gvL (fun j => lackZ (μ (10 + 2 + j))) x (μ 1 2) p) (sumN (bsV n (fun i => μ (10 + 2 + i)) (μ 1 2) x) p) (p : Int) ν = some (sumN (bsV n (fun i => μ (10 + 2 + i)) (μ 1 2) x) m) := by
  have h8 := a2.1
  have hs := a2.2.2.1
  intro k
  induction k with
  | zero => intro p h1 h2; omega
  | succ k ih =>
    intro p h1 h2
    have e10 : ν 10 2 = (m : Int) := by rw [hf 10 (by decide) (by decide) (by decide), a1.1, hm]
    rw [L4_throughOf_13, e10, if_pos (show inR (p : Int) ∧ inR (m : Int) by omega)]
    by_cases c : (m : Int) ≤ (p : Int)
    · rw [if_pos c, show p = m by omega]
    · have hp8 : p < 8 := by omega
      have hq : okP (μ (10 + 2 + p)) := offP a1 a2 (by omega)
      have hl := lackZ_in hq
      have hg := gvL_in (L := fun j => lackZ (μ (10 + 2 + j))) (fun j => lackZ_0 _) x hs.1 p
      have ep : ν (10 + 2 + p) = μ (10 + 2 + p) := hf _ (by omega) (by omega) (by omega)
      have hwp := hw p (by omega)
      have n1 := ih (p + 1) (by omega) (by omega)
      rw [show gvL (fun j => lackZ (μ (10 + 2 + j))) x (μ 1 2) (p + 1) = if gvn (fun j => lackZ (μ (10 + 2 + j))) x (μ 1 2) p then gvL (fun j => lackZ (μ (10 + 2 + j))) x (μ 1 2) p - lackZ (μ (10 + 2 + p)) else gvL (fun j => lackZ (μ (10 + 2 + j))) x (μ 1 2) p from rfl, show sumN (bsV n (fun i => μ (10 + 2 + i)) (μ 1 2) x) (p + 1) = sumN (bsV n (fun i => μ (10 + 2 + i)) (μ 1 2) x) p + (if gvn (fun j => lackZ (μ (10 + 2 + j))) x (μ 1 2) p then wgG n (fun i => μ (10 + 2 + i)) p else wgB n (fun i => μ (10 + 2 + i)) p) from rfl] at n1
      rw [if_neg c, M1_at_eq N 10 p hp8, Option.bind_some, if_pos (kdo (Or.inl rfl) hp8), M2_lacking_eq N _ (by rw [ep]; exact hq), Option.bind_some, ep, if_pos (show inR (x : Int) ∧ 0 ≤ (p : Int) ∧ (p : Int) < 32 by omega)]
      simp only [bitZ_nat, J4_throughOf_59, J4_throughOf_60, J4_throughOf_72, bnd]
      rw [if_pos (show inR ((x / 2 ^ p % 2 : Nat) : Int) by omega), if_pos (show inR (lackZ (μ (10 + 2 + p))) ∧ inR (gvL (fun j => lackZ (μ (10 + 2 + j))) x (μ 1 2) p) by omega)]
      rw [if_pos (show inR (0 : Int) by decide), if_pos trivial, if_pos (show inR (1 : Int) by decide), if_neg (show ¬ (1 : Int) = 0 by decide), weighed0 N hp8, weighed1 N hp8, hwp.1, hwp.2, Option.bind_some, Option.bind_some]
      by_cases g : gvn (fun j => lackZ (μ (10 + 2 + j))) x (μ 1 2) p
      · rw [if_pos g, if_pos g] at n1
        have g2 : lackZ (μ (10 + 2 + p)) ≤ gvL (fun j => lackZ (μ (10 + 2 + j))) x (μ 1 2) p := g.2
        have g1 := g.1
        rw [if_pos (show ((x / 2 ^ p % 2 : Nat) : Int) = 1 by omega), if_neg (by omega)]
        exact n1
      · rw [if_neg g, if_neg g] at n1
        by_cases d : x / 2 ^ p % 2 = 1
        · have g2 : ¬ lackZ (μ (10 + 2 + p)) ≤ gvL (fun j => lackZ (μ (10 + 2 + j))) x (μ 1 2) p := fun z => g ⟨d, z⟩
          rw [if_pos (show ((x / 2 ^ p % 2 : Nat) : Int) = 1 by omega), if_pos (by omega)]
          exact n1
        · rw [if_neg (show ¬ ((x / 2 ^ p % 2 : Nat) : Int) = 1 by omega)]
          exact n1
theorem bsV_in {μ : mm} (a1 : relO 10 1 μ) (a2 : okR μ 1) (n : Nat) (m : Nat) (hm : (m : Int) = μ 1 0) (x : Nat) : 0 ≤ sumN (bsV n (fun i => μ (10 + 2 + i)) (μ 1 2) x) m ∧ sumN (bsV n (fun i => μ (10 + 2 + i)) (μ 1 2) x) m ≤ 7992 := by
  have h8 := a2.1
  have := sumN_999 (f := bsV n (fun i => μ (10 + 2 + i)) (μ 1 2) x) m (fun i hi => by
    have h := wg_in n (Q := fun i => μ (10 + 2 + i)) (p := i) (offP a1 a2 (by omega))
    unfold bsV
    split
    · exact h.2
    · exact h.1)
  omega
theorem best73 (N : Nat) (hN : 200 ≤ N) {μ : mm} (a1 : relO 10 1 μ) (a2 : okR μ 1) (a3 : μ 1 1 ≤ 999) (n : Nat) (hn : n ≤ 100) (m : Nat) (hm : (m : Int) = μ 1 0) (x : Nat) (hx : x < 256) (rec : Int → Int → Int → Int → Int → mm → Option (Int × mm)) (w found best : Int) (hb : inR best) : ∀ (k p : Nat) (issued : Int) (ν : mm), p ≤ m → m < p + k → frB μ ν → okR ν 2 → ν 2 0 = (m : Int) → ν 2 1 = μ 1 1 → ν 2 2 = gvL (fun j => lackZ (μ (10 + 2 + j))) x (μ 1 2) p → (∀ j, j < m → at6 ν 2 j (if j < p ∧ gvn (fun j => lackZ (μ (10 + 2 + j))) x (μ 1 2) j then fu (μ (10 + 2 + j)) 2 (μ (10 + 2 + j) 2 + lackZ (μ (10 + 2 + j))) else μ (10 + 2 + j))) →
    ∃ ν', L5_best_73 N rec k (n : Int) w found best (x : Int) issued (p : Int) ν = (if best < sumN (bsV n (fun i => μ (10 + 2 + i)) (μ 1 2) x) m then rec (n : Int) w (x : Int) (sumN (bsV n (fun i => μ (10 + 2 + i)) (μ 1 2) x) m) ((x : Int) + 1) ν' else rec (n : Int) w found best ((x : Int) + 1) ν') ∧ frB μ ν' := by
  have h8 := a2.1
  have hs := a2.2.2.1
  intro k
  induction k with
  | zero => intro p issued ν h1 h2; omega
  | succ k ih =>
    intro p issued ν h1 h2 hf ok m2 d2 s2 h6
    have e1 := hf 1 (by decide) (by decide) (by decide) (by decide)
    have e10 : ν 1 0 = (m : Int) := by rw [e1, hm]
    rw [L5_best_73, e10, if_pos (show inR (p : Int) ∧ inR (m : Int) by omega)]
    by_cases c : (m : Int) ≤ (p : Int)
    · obtain rfl : p = m := by omega
      have eB := thrB N hN p (by omega) e10 ok m2 (by omega) n hn (Q := fun j => μ (10 + 2 + j)) (fun j hj => by intro k hk; rw [e1]; exact a1.2.2.2.2 j (by omega) k hk) h6
      have eV : sumN (fun j => dayI n (if j < p ∧ gvn (fun j => lackZ (μ (10 + 2 + j))) x (μ 1 2) j then fu (μ (10 + 2 + j)) 2 (μ (10 + 2 + j) 2 + lackZ (μ (10 + 2 + j))) else μ (10 + 2 + j)) 4 - μ (10 + 2 + j) 4) p = sumN (bsV n (fun i => μ (10 + 2 + i)) (μ 1 2) x) p := by
        refine sumN_congr p (fun j hj => ?_)
        unfold bsV
        by_cases g : gvn (fun j => lackZ (μ (10 + 2 + j))) x (μ 1 2) j
        · rw [if_pos ⟨hj, g⟩, if_pos g]
          rfl
        · rw [if_neg (fun z => g z.2), if_neg g]
          unfold wgB thn
          dsimp only
          rw [fu_self]
      have hV := bsV_in a1 a2 n p hm x
      rw [eV] at eB
      rw [if_pos c, eB, Option.bind_some]
      dsimp only
      rw [if_pos (show inR (sumN (bsV n (fun i => μ (10 + 2 + i)) (μ 1 2) x) p) ∧ inR best by omega)]
      simp only [J5_best_140]
      refine ⟨days 2 n ν, rfl, fun a h2 h43 h48 h49 => ?_⟩
      rw [show days 2 n ν a = ν a from funext fun b => days_c h2 n]
      exact hf a h2 h43 h48 h49
    · have hp8 : p < 8 := by omega
      have hq : okP (μ (10 + 2 + p)) := offP a1 a2 (by omega)
      have h6p := h6 p (by omega)
      rw [if_neg (fun z => absurd z.1 (by omega))] at h6p
      have hgp : gvn (fun j => lackZ (μ (10 + 2 + j))) x (μ 1 2) p → lackZ (μ (10 + 2 + p)) ≤ ν 2 2 := fun z => by rw [s2]; exact z.2
      obtain ⟨g1, g2, g3, g4, g5, g6, g7⟩ := sg_ok (c := gvn (fun j => lackZ (μ (10 + 2 + j))) x (μ 1 2) p) hgp ok (by omega) h6p hq
      have hN6 : ∀ j, j < m → at6 (if gvn (fun j => lackZ (μ (10 + 2 + j))) x (μ 1 2) p then isR ν 2 p (lackZ (μ (10 + 2 + p))) else ν) 2 j (if j < p + 1 ∧ gvn (fun j => lackZ (μ (10 + 2 + j))) x (μ 1 2) j then fu (μ (10 + 2 + j)) 2 (μ (10 + 2 + j) 2 + lackZ (μ (10 + 2 + j))) else μ (10 + 2 + j)) := by
        intro j hj
        by_cases e : j = p
        · subst e
          by_cases g : gvn (fun j => lackZ (μ (10 + 2 + j))) x (μ 1 2) j
          · rw [if_pos g] at g6 ⊢
            rw [if_pos ⟨by omega, g⟩]
            rw [if_pos g] at g6
            exact g6
          · rw [if_neg g] at g6 ⊢
            rw [if_neg (fun z => g z.2)]
            rw [if_neg g] at g6
            exact g6
        · have a := g7 j _ e (h6 j hj)
          by_cases g : j < p ∧ gvn (fun j => lackZ (μ (10 + 2 + j))) x (μ 1 2) j
          · rw [if_pos g] at a
            rw [if_pos (show j < p + 1 ∧ _ from ⟨by omega, g.2⟩)]
            exact a
          · rw [if_neg g] at a
            rw [if_neg (show ¬ (j < p + 1 ∧ gvn (fun j => lackZ (μ (10 + 2 + j))) x (μ 1 2) j) from fun z => g ⟨by omega, z.2⟩)]
            exact a
      have go := fun issued' => ih (p + 1) issued' _ (by omega) (by omega) (fun a h2 h43 h48 h49 => (g5 a h2).trans (hf a h2 h43 h48 h49)) g1 (g2.trans m2) (g3.trans d2) (by rw [g4, s2]; rfl) hN6
      rw [if_neg c, M5_has_eq N x p hx hp8, Option.bind_some]
      simp only [J5_best_106, bnd]
      by_cases d : x / 2 ^ p % 2 = 1
      · rw [if_pos d, if_pos (by decide), if_neg (by decide), signs5 N hp8 ok h6p hq]
        by_cases u : lackZ (μ (10 + 2 + p)) ≤ ν 2 2
        · have g : gvn (fun j => lackZ (μ (10 + 2 + j))) x (μ 1 2) p := ⟨d, by rw [← s2]; exact u⟩
          rw [if_pos u, Option.bind_some]
          simp only [if_pos g] at go
          exact go _
        · have g : ¬ gvn (fun j => lackZ (μ (10 + 2 + j))) x (μ 1 2) p := fun z => u (hgp z)
          rw [if_neg u, Option.bind_some]
          simp only [if_neg g] at go
          exact go _
      · have g : ¬ gvn (fun j => lackZ (μ (10 + 2 + j))) x (μ 1 2) p := fun z => d z.1
        rw [if_neg d, if_pos (by decide), if_pos rfl]
        simp only [if_neg g] at go
        exact go _
def bsZ (f : Nat → Int) (w : Int) : Nat → Nat → Int → Int → Int
  | 0, _, most, which => if w = 0 then most else which
  | k + 1, x, most, which => if f x ≤ most then bsZ f w k (x + 1) most which else bsZ f w k (x + 1) (f x) (x : Int)
theorem pow_n {e : Int} (n : Nat) (h : e = (n : Int)) : (1 * 2 ^ e.toNat : Int) = ((2 ^ n : Nat) : Int) := by
  rw [h, Int.toNat_natCast, Int.one_mul, Int.natCast_pow]
  rfl
theorem best42 (N : Nat) {μ ν : mm} (a1 : relO 10 1 μ) (a2 : okR μ 1) (n : Nat) (m : Nat) (hm : (m : Int) = μ 1 0) (hf : ∀ a, a ≠ 43 → a ≠ 48 → a ≠ 49 → ν a = μ a) (hw : ∀ j, j < m → ν 48 j = wgB n (fun i => μ (10 + 2 + i)) j ∧ ν 49 j = wgG n (fun i => μ (10 + 2 + i)) j) (hN : 300 ≤ N) {w : Int} (hwi : inR w) : ∀ (k x : Nat) (most which : Int), x ≤ 2 ^ m → 2 ^ m < x + k → (-9 ≤ most ∧ most ≤ 7992) →
    L4_best_42 N k w most which (x : Int) ν = some (bsZ (fun x => sumN (bsV n (fun i => μ (10 + 2 + i)) (μ 1 2) x) m) w (2 ^ m - x) x most which, ν) := by
  have h8 := a2.1
  have hP : 2 ^ m ≤ 256 := Nat.pow_le_pow_right (n := 2) (by decide) (show m ≤ 8 by omega)
  have e10 : ν 10 2 = (m : Int) := by rw [hf 10 (by decide) (by decide) (by decide), a1.1, hm]
  have eS : ν 10 3 = μ 1 2 := by rw [hf 10 (by decide) (by decide) (by decide), a1.2.1]
  intro k
  induction k with
  | zero => intro x most which h1 h2; omega
  | succ k ih =>
    intro x most which h1 h2 hmo
    rw [L4_best_42, if_pos (show 0 ≤ ν 10 2 ∧ ν 10 2 < 32 by omega), pow_n m e10, if_pos (show inR (x : Int) ∧ inR ((2 ^ m : Nat) : Int) by omega)]
    by_cases c : ((2 ^ m : Nat) : Int) ≤ (x : Int)
    · rw [if_pos c, show 2 ^ m - x = 0 by omega, if_pos hwi, bsZ]
      by_cases d : w = 0
      · rw [if_pos d, if_pos d]
      · rw [if_neg d, if_neg d]
    · have hV := bsV_in a1 a2 n m hm x
      have eT := throughOf4 N a1 a2 n m hm hf hw x (by omega) N 0 (by omega) (by omega)
      rw [if_neg c]
      unfold M4_throughOf
      simp only [bnd, J4_best_79]
      rw [eS]
      rw [show gvL (fun j => lackZ (μ (10 + 2 + j))) x (μ 1 2) 0 = μ 1 2 from rfl, show sumN (bsV n (fun i => μ (10 + 2 + i)) (μ 1 2) x) 0 = 0 from rfl, show ((0 : Nat) : Int) = 0 from rfl] at eT
      rw [eT, Option.bind_some, if_pos (show inR (sumN (bsV n (fun i => μ (10 + 2 + i)) (μ 1 2) x) m) ∧ inR most by omega), show 2 ^ m - x = (2 ^ m - (x + 1)) + 1 by omega, bsZ]
      by_cases g : sumN (bsV n (fun i => μ (10 + 2 + i)) (μ 1 2) x) m ≤ most
      · rw [if_pos g, if_pos g]
        exact ih (x + 1) most which (by omega) (by omega) hmo
      · rw [if_neg g, if_neg g]
        exact ih (x + 1) _ (x : Int) (by omega) (by omega) (by omega)
theorem best43 (N : Nat) (hN : 300 ≤ N) {μ : mm} (a1 : relO 10 1 μ) (a2 : okR μ 1) (a3 : μ 1 1 ≤ 999) (n : Nat) (hn : n ≤ 100) (m : Nat) (hm : (m : Int) = μ 1 0) {w : Int} (hwi : inR w) : ∀ (k x : Nat) (most which : Int) (ν : mm), x ≤ 2 ^ m → 2 ^ m < x + k → (-9 ≤ most ∧ most ≤ 7992) → frB μ ν →
    ∃ ν', L5_best_43 N k (n : Int) w which most (x : Int) ν = some (bsZ (fun x => sumN (bsV n (fun i => μ (10 + 2 + i)) (μ 1 2) x) m) w (2 ^ m - x) x most which, ν') ∧ frB μ ν' := by
  have h8 := a2.1
  have hP : 2 ^ m ≤ 256 := Nat.pow_le_pow_right (n := 2) (by decide) (show m ≤ 8 by omega)
  intro k
  induction k with
  | zero => intro x most which ν h1 h2; omega
  | succ k ih =>
    intro x most which ν h1 h2 hmo hf
    have e1 := hf 1 (by decide) (by decide) (by decide) (by decide)
    have e10 : ν 1 0 = (m : Int) := by rw [e1, hm]
    rw [L5_best_43, if_pos (show 0 ≤ ν 1 0 ∧ ν 1 0 < 32 by omega), pow_n m e10, if_pos (show inR (x : Int) ∧ inR ((2 ^ m : Nat) : Int) by omega)]
    by_cases c : ((2 ^ m : Nat) : Int) ≤ (x : Int)
    · rw [if_pos c, show 2 ^ m - x = 0 by omega, if_pos hwi, bsZ]
      by_cases d : w = 0
      · rw [if_pos d, if_pos d]
        exact ⟨ν, rfl, hf⟩
      · rw [if_neg d, if_neg d]
        exact ⟨ν, rfl, hf⟩
    · have hV := bsV_in a1 a2 n m hm x
      obtain ⟨s1, s2, s3, s4, s5, s6⟩ := cpS a1 a2 e1
      obtain ⟨ν', e', f'⟩ := best73 N (by omega) a1 a2 a3 n hn m hm x (by omega) (L5_best_43 N k) w which most (by omega) N 0 0 (cp 1 2 ν) (by omega) (by omega) (fun a h2 h43 h48 h49 => (cp_row h2).trans (hf a h2 h43 h48 h49)) s1 (by rw [s2, hm]) s3 s4 (fun j hj => by rw [if_neg (fun z => absurd z.1 (by omega))]; exact s6 j (by omega))
      rw [show ((0 : Nat) : Int) = 0 from rfl] at e'
      rw [if_neg c, M5_copies_eq N 1 2 (by omega) (by decide), Option.bind_some, e', show 2 ^ m - x = (2 ^ m - (x + 1)) + 1 by omega, bsZ]
      by_cases g : sumN (bsV n (fun i => μ (10 + 2 + i)) (μ 1 2) x) m ≤ most
      · rw [if_neg (by omega), if_pos g]
        exact ih (x + 1) most which _ (by omega) (by omega) hmo f'
      · rw [if_pos (by omega), if_neg g]
        exact ih (x + 1) _ (x : Int) _ (by omega) (by omega) (by omega) f'
theorem op_best (N : Nat) (hN : 300 ≤ N) {μ : mm} (R : Rel μ) {n w : Int} (hn : inR n) (hw : inR w) : Op (M4_best N n w) (M5_best N n w) μ := by
  obtain ⟨⟨a1, a2, a3⟩, -⟩ := id R
  have hm := a2.1
  have ho := outZ_in n 1 30
  have ht := othZ_in w 1
  by_cases o : outZ n 1 30 = 0
  · have oo := outZ_0 o
    by_cases t : othZ w 1 = 0
    · have tt := othZ_0 t
      obtain ⟨j, rfl⟩ := Int.eq_ofNat_of_zero_le (show 0 ≤ n by omega)
      obtain ⟨m, hmm⟩ := Int.eq_ofNat_of_zero_le hm.1
      obtain ⟨μ1, eW, fW, hW⟩ := weigh4 N (by omega) a1 a2 j (by omega) m hmm.symm N 0 μ (by omega) (by omega) (fun _ _ _ _ => rfl) (fun i hi => by omega)
      have hP : 2 ^ m ≤ 256 := Nat.pow_le_pow_right (n := 2) (by decide) (show m ≤ 8 by omega)
      have hP1 : 1 ≤ 2 ^ m := Nat.one_le_two_pow
      have e4 := best42 N a1 a2 j m hmm.symm fW hW hN hw N 0 (-9) 0 (by omega) (by omega) (by decide)
      obtain ⟨μ2, e5, f5⟩ := best43 N hN a1 a2 a3 j (by omega) m hmm.symm hw N 0 (-1) 0 μ1 (by omega) (by omega) (by decide) (fun a h2 h43 h48 h49 => fW a h43 h48 h49)
      have hV := bsV_in a1 a2 j m hmm.symm 0
      have eZ : bsZ (fun x => sumN (bsV j (fun i => μ (10 + 2 + i)) (μ 1 2) x) m) w (2 ^ m - 0) 0 (-1) 0 = bsZ (fun x => sumN (bsV j (fun i => μ (10 + 2 + i)) (μ 1 2) x) m) w (2 ^ m - 0) 0 (-9) 0 := by
        rw [show 2 ^ m - 0 = (2 ^ m - 1) + 1 by omega, bsZ, bsZ, if_neg (by omega), if_neg (by omega)]
      rw [eZ, show ((0 : Nat) : Int) = 0 from rfl] at e5
      rw [show ((0 : Nat) : Int) = 0 from rfl] at e4 eW
      refine ⟨bsZ (fun x => sumN (bsV j (fun i => μ (10 + 2 + i)) (μ 1 2) x) m) w (2 ^ m - 0) 0 (-9) 0, μ1, μ2, ?_, ?_, Rel_frB R f5⟩
      · simp only [M4_best, M4_weigh]
        rw [M4_outside_eq N hn (by decide) (by decide), Option.bind_some, M4_other_eq N hw (by decide), Option.bind_some, M4_firstOf_eq N ho ht, Option.bind_some, fst0 o t, if_pos (by decide), if_pos rfl, eW, Option.bind_some]
        exact e4
      · simp only [M5_best, J5_best_24]
        rw [M5_wrongBy_eq N hn (by decide) (by decide), Option.bind_some, o, if_pos (by decide), if_pos rfl, M5_isIn_eq N hw (by decide) (by decide), Option.bind_some, if_pos tt, if_pos (by decide), if_neg (by decide), if_pos (by decide), if_pos rfl]
        exact e5
    · obtain ⟨t1, t2⟩ := oth_no t
      refine Op_ref N R (c := -2) (by decide) ?_ (fun ν _ => ?_)
      · simp only [M4_best]
        rw [M4_outside_eq N hn (by decide) (by decide), Option.bind_some, M4_other_eq N hw (by decide), Option.bind_some, M4_firstOf_eq N ho ht, Option.bind_some, fst2 o t, t1, if_pos (by decide), if_neg (by decide), rf4 N (by decide)]
      · simp only [M5_best, J5_best_24]
        rw [M5_wrongBy_eq N hn (by decide) (by decide), Option.bind_some, o, if_pos (by decide), if_pos rfl, M5_isIn_eq N hw (by decide) (by decide), Option.bind_some, if_neg t2, if_pos (by decide), if_pos rfl, if_pos (by decide), if_neg (by decide), rf5 N (by decide)]
  · refine Op_ref N R (c := outZ n 1 30) (by omega) ?_ (fun ν _ => ?_)
    · simp only [M4_best]
      rw [M4_outside_eq N hn (by decide) (by decide), Option.bind_some, M4_other_eq N hw (by decide), Option.bind_some, M4_firstOf_eq N ho ht, Option.bind_some, fst1 o, if_pos (show inR (outZ n 1 30) by omega), if_neg o, rf4 N ho]
    · simp only [M5_best, J5_best_24]
      rw [M5_wrongBy_eq N hn (by decide) (by decide), Option.bind_some, if_pos (show inR (outZ n 1 30) by omega), if_neg o, if_pos (show inR (outZ n 1 30) by omega), if_neg o, rf5 N ho]
end
section
/-! two -/
def wtZ (n : Nat) (Q : Nat → Nat → Int) (p : Nat) (s S : Int) : Int := if s = 1 ∧ lackZ (Q p) ≤ S then wgG n Q p - lackZ (Q p) / 10 else wgB n Q p
def stZ (Q : Nat → Nat → Int) (a : Nat) (s S : Int) : Int := if s = 1 ∧ lackZ (Q a) ≤ S then S - lackZ (Q a) else S
theorem wtZ_in (n : Nat) {Q : Nat → Nat → Int} {p : Nat} (h : okP (Q p)) (s S : Int) : -3 ≤ wtZ n Q p s S ∧ wtZ n Q p s S ≤ 999 := by
  have hl := lackZ_in h
  have hw := wg_in n h
  unfold wtZ
  split <;> omega
theorem stZ_in {Q : Nat → Nat → Int} (a : Nat) (s : Int) {S : Int} (hS : 0 ≤ S ∧ S ≤ 999) : 0 ≤ stZ Q a s S ∧ stZ Q a s S ≤ 999 := by
  have := lackZ_0 (Q a)
  unfold stZ
  split <;> omega
theorem wants4 (N : Nat) {μ ν : mm} (a1 : relO 10 1 μ) (a2 : okR μ 1) (n : Nat) (m : Nat) (hm : (m : Int) = μ 1 0) (hf : ∀ a, a ≠ 43 → a ≠ 48 → a ≠ 49 → ν a = μ a) (hw : ∀ j, j < m → ν 48 j = wgB n (fun i => μ (10 + 2 + i)) j ∧ ν 49 j = wgG n (fun i => μ (10 + 2 + i)) j) (p : Nat) (hp : p < m) {s S : Int} (hs : inR s) (hS : inR S) : M4_wants N (p : Int) s S ν = some (wtZ n (fun i => μ (10 + 2 + i)) p s S) := by
  have h8 := a2.1
  have hp8 : p < 8 := by omega
  have hq : okP (μ (10 + 2 + p)) := offP a1 a2 (by omega)
  have hl := lackZ_in hq
  have ep : ν (10 + 2 + p) = μ (10 + 2 + p) := hf _ (by omega) (by omega) (by omega)
  have hwp := hw p hp
  unfold M4_wants
  simp only [J4_wants_28, J4_wants_29]
  rw [M1_at_eq N 10 p hp8, Option.bind_some, if_pos (kdo (Or.inl rfl) hp8), M2_lacking_eq N _ (by rw [ep]; exact hq), Option.bind_some, ep, if_pos hs, if_pos (show inR (lackZ (μ (10 + 2 + p))) ∧ inR S by omega), weighed0 N hp8, weighed1 N hp8, Option.bind_some, Option.bind_some, if_pos (show inR (0 : Int) by decide), if_pos trivial, if_pos (show inR (1 : Int) by decide), if_neg (show ¬ (1 : Int) = 0 by decide), if_pos (show 0 ≤ lackZ (μ (10 + 2 + p)) ∧ inR (lackZ (μ (10 + 2 + p))) by omega), hwp.1, hwp.2]
  unfold wtZ
  by_cases c : s = 1
  · rw [if_pos c]
    by_cases d : lackZ (μ (10 + 2 + p)) ≤ S
    · rw [if_neg (show ¬ S < lackZ (μ (10 + 2 + p)) by omega), if_pos ⟨c, d⟩]
    · rw [if_pos (show S < lackZ (μ (10 + 2 + p)) by omega), if_neg (fun z => d z.2), Int.sub_zero]
  · rw [if_neg c, if_neg (fun z => c z.1), Int.sub_zero]
theorem otherWants4 (N : Nat) {μ ν : mm} (a1 : relO 10 1 μ) (a2 : okR μ 1) (n : Nat) (m : Nat) (hm : (m : Int) = μ 1 0) (hf : ∀ a, a ≠ 43 → a ≠ 48 → a ≠ 49 → ν a = μ a) (hw : ∀ j, j < m → ν 48 j = wgB n (fun i => μ (10 + 2 + i)) j ∧ ν 49 j = wgG n (fun i => μ (10 + 2 + i)) j) (a b : Nat) (ha : a < m) (hb : b < m) {s t : Int} (hs : inR s) (ht : inR t) : M4_otherWants N (a : Int) s (b : Int) t ν = some (wtZ n (fun i => μ (10 + 2 + i)) b t (stZ (fun i => μ (10 + 2 + i)) a s (μ 1 2))) := by
  have h8 := a2.1
  have hS := a2.2.2.1
  have ha8 : a < 8 := by omega
  have hq : okP (μ (10 + 2 + a)) := offP a1 a2 (by omega)
  have hl := lackZ_in hq
  have ep : ν (10 + 2 + a) = μ (10 + 2 + a) := hf _ (by omega) (by omega) (by omega)
  have eS : ν 10 3 = μ 1 2 := by rw [hf 10 (by decide) (by decide) (by decide), a1.2.1]
  have go := fun S (hS : inR S) => wants4 N a1 a2 n m hm hf hw b hb ht hS
  unfold M4_otherWants
  simp only [J4_otherWants_34, J4_otherWants_35, J4_otherWants_66]
  rw [M1_at_eq N 10 a ha8, Option.bind_some, if_pos (kdo (Or.inl rfl) ha8), M2_lacking_eq N _ (by rw [ep]; exact hq), Option.bind_some, ep, eS, if_pos hs, if_pos (show inR (lackZ (μ (10 + 2 + a))) ∧ inR (μ 1 2) by omega), go (μ 1 2) (by omega), go (μ 1 2 - lackZ (μ (10 + 2 + a))) (by omega), if_pos (show inR (0 : Int) by decide), if_pos trivial, if_pos (show inR (1 : Int) by decide), if_neg (show ¬ (1 : Int) = 0 by decide)]
  unfold stZ
  by_cases c : s = 1
  · rw [if_pos c]
    by_cases d : lackZ (μ (10 + 2 + a)) ≤ μ 1 2
    · rw [if_neg (show ¬ μ 1 2 < lackZ (μ (10 + 2 + a)) by omega), if_pos ⟨c, d⟩]
      rfl
    · rw [if_pos (show μ 1 2 < lackZ (μ (10 + 2 + a)) by omega), if_neg (fun z => d z.2)]
      rfl
  · rw [if_neg c, if_neg (fun z => c z.1)]
    rfl
def twZ (A : Int → Int) (B : Int → Int → Int) : Nat → Nat → Int
  | 0, _ => -9
  | k + 1, i => if A ((i : Int) / 2) < A (1 - (i : Int) / 2) then twZ A B k (i + 1) else if B ((i : Int) / 2) ((i : Int) % 2) < B ((i : Int) / 2) (1 - (i : Int) % 2) then twZ A B k (i + 1) else 10 * ((i : Int) / 2) + (i : Int) % 2
theorem two60 (N : Nat) {μ ν : mm} (a1 : relO 10 1 μ) (a2 : okR μ 1) (n : Nat) (m : Nat) (hm : (m : Int) = μ 1 0) (hf : ∀ a, a ≠ 43 → a ≠ 48 → a ≠ 49 → ν a = μ a) (hw : ∀ j, j < m → ν 48 j = wgB n (fun i => μ (10 + 2 + i)) j ∧ ν 49 j = wgG n (fun i => μ (10 + 2 + i)) j) (a b : Nat) (ha : a < m) (hb : b < m) : ∀ (k i : Nat), i ≤ 4 → 4 < i + k →
    L4_two_60 N k (a : Int) (b : Int) (i : Int) ν = some (twZ (fun s => wtZ n (fun i => μ (10 + 2 + i)) a s (μ 1 2)) (fun s t => wtZ n (fun i => μ (10 + 2 + i)) b t (stZ (fun i => μ (10 + 2 + i)) a s (μ 1 2))) (4 - i) i, ν) := by
  have hS := a2.2.2.1
  have eS : ν 10 3 = μ 1 2 := by rw [hf 10 (by decide) (by decide) (by decide), a1.2.1]
  have w1 := fun s (hs : inR s) => wants4 N a1 a2 n m hm hf hw a ha hs (show inR (μ 1 2) by omega)
  have w2 := fun s t (hs : inR s) (ht : inR t) => otherWants4 N a1 a2 n m hm hf hw a b ha hb hs ht
  have i1 := fun s => wtZ_in n (Q := fun i => μ (10 + 2 + i)) (p := a) (offP a1 a2 (by omega)) s (μ 1 2)
  have i2 := fun t S => wtZ_in n (Q := fun i => μ (10 + 2 + i)) (p := b) (offP a1 a2 (by omega)) t S
  intro k
  induction k with
  | zero => intro i h1 h2; omega
  | succ k ih =>
    intro i h1 h2
    rw [L4_two_60, if_pos (show inR (i : Int) by omega)]
    by_cases c : 4 ≤ (i : Int)
    · rw [if_pos c, show 4 - i = 0 by omega]
      rfl
    · rw [if_neg c]
      simp only [bnd, M4_firstWants, J4_two_131]
      rw [if_pos (show 0 ≤ (i : Int) ∧ inR (i : Int) by omega), if_pos (show 0 ≤ (i : Int) ∧ inR (i : Int) by omega), eS, w1 ((i : Int) / 2) (by omega), Option.bind_some, Option.bind_some, w1 (1 - (i : Int) / 2) (by omega), Option.bind_some, Option.bind_some, w2 _ _ (by omega) (by omega), Option.bind_some, w2 _ _ (by omega) (by omega), Option.bind_some, show 4 - i = (4 - (i + 1)) + 1 by omega, twZ]
      have j1 := i1 ((i : Int) / 2)
      have j2 := i1 (1 - (i : Int) / 2)
      have j3 := i2 ((i : Int) % 2) (stZ (fun i => μ (10 + 2 + i)) a ((i : Int) / 2) (μ 1 2))
      have j4 := i2 (1 - (i : Int) % 2) (stZ (fun i => μ (10 + 2 + i)) a ((i : Int) / 2) (μ 1 2))
      have n1 := ih (i + 1) (by omega) (by omega)
      rw [if_pos (show inR (wtZ n (fun i => μ (10 + 2 + i)) a ((i : Int) / 2) (μ 1 2)) ∧ inR (wtZ n (fun i => μ (10 + 2 + i)) a (1 - (i : Int) / 2) (μ 1 2)) by omega), if_pos (show inR (wtZ n (fun i => μ (10 + 2 + i)) b ((i : Int) % 2) (stZ (fun i => μ (10 + 2 + i)) a ((i : Int) / 2) (μ 1 2))) ∧ inR (wtZ n (fun i => μ (10 + 2 + i)) b (1 - (i : Int) % 2) (stZ (fun i => μ (10 + 2 + i)) a ((i : Int) / 2) (μ 1 2))) by omega)]
      by_cases g : wtZ n (fun i => μ (10 + 2 + i)) a ((i : Int) / 2) (μ 1 2) < wtZ n (fun i => μ (10 + 2 + i)) a (1 - (i : Int) / 2) (μ 1 2)
      · rw [if_pos g, if_pos g]
        exact n1
      · rw [if_neg g, if_neg g]
        by_cases h : wtZ n (fun i => μ (10 + 2 + i)) b ((i : Int) % 2) (stZ (fun i => μ (10 + 2 + i)) a ((i : Int) / 2) (μ 1 2)) < wtZ n (fun i => μ (10 + 2 + i)) b (1 - (i : Int) % 2) (stZ (fun i => μ (10 + 2 + i)) a ((i : Int) / 2) (μ 1 2))
        · rw [if_pos h, if_pos h]
          exact n1
        · rw [if_neg h, if_neg h]
theorem sgK {β : Type} (N : Nat) {ν : mm} {p : Nat} {q : Nat → Int} {x : Int} (hx : inR x) (hp : p < 8) (ok : okR ν 2) (h6 : at6 ν 2 p q) (hq : okP q) (K : Int → mm → Option β) : (if inR x then (if x = 1 then ((M5_signs N (p : Int) ν).bind fun (z : Int × mm) => K z.1 z.2) else K 0 ν) else none) = K (if x = 1 ∧ lackZ q ≤ ν 2 2 then lackZ q else 0) (if x = 1 ∧ lackZ q ≤ ν 2 2 then isR ν 2 p (lackZ q) else ν) := by
  rw [if_pos hx, signs5 N hp ok h6 hq]
  by_cases c : x = 1
  · rw [if_pos c]
    by_cases d : lackZ q ≤ ν 2 2
    · rw [if_pos d, if_pos ⟨c, d⟩, if_pos ⟨c, d⟩]
      rfl
    · rw [if_neg d, if_neg (fun z => d z.2), if_neg (fun z => d z.2)]
      rfl
  · rw [if_neg c, if_neg (fun z => c z.1), if_neg (fun z => c z.1)]
theorem own5 (N : Nat) (hN : 200 ≤ N) {μ ν : mm} (a1 : relO 10 1 μ) (a2 : okR μ 1) (a3 : μ 1 1 ≤ 999) (n : Nat) (hn : n ≤ 100) (a b : Nat) (ha : (a : Int) < μ 1 0) (hb : (b : Int) < μ 1 0) (hab : a ≠ b) {x y : Int} (hx : inR x) (hy : inR y) (hf : frB μ ν) (c : Nat) (hc : c = a ∨ c = b) :
    ∃ ν', M5_ownBy N (c : Int) (a : Int) x (b : Int) y (n : Int) ν = some (if c = a then wtZ n (fun i => μ (10 + 2 + i)) a x (μ 1 2) else wtZ n (fun i => μ (10 + 2 + i)) b y (stZ (fun i => μ (10 + 2 + i)) a x (μ 1 2)), ν') ∧ frB μ ν' := by
  have h8 := a2.1
  have e1 := hf 1 (by decide) (by decide) (by decide) (by decide)
  have ha8 : a < 8 := by omega
  have hb8 : b < 8 := by omega
  have hqa : okP (μ (10 + 2 + a)) := offP a1 a2 ha
  have hqb : okP (μ (10 + 2 + b)) := offP a1 a2 hb
  have hla := lackZ_in hqa
  have hlb := lackZ_in hqb
  obtain ⟨s1, s2, s3, s4, s5, s6⟩ := cpS a1 a2 e1
  obtain ⟨g1, g2, g3, g4, g5, g6, g7⟩ := sg_ok (c := x = 1 ∧ lackZ (μ (10 + 2 + a)) ≤ cp 1 2 ν 2 2) (fun z => z.2) s1 (by omega) (s6 a ha) hqa
  have g6b := g7 b _ (fun z => hab z.symm) (s6 b hb)
  have K1 := sgK (x := x) N hx ha8 s1 (s6 a ha) hqa (fun o τ => J5_ownBy_25 N (c : Int) (a : Int) (b : Int) y (n : Int) o τ)
  obtain ⟨k1, k2, k3, k4, k5, k6, k7⟩ := sg_ok (c := y = 1 ∧ lackZ (μ (10 + 2 + b)) ≤ (if x = 1 ∧ lackZ (μ (10 + 2 + a)) ≤ cp 1 2 ν 2 2 then isR (cp 1 2 ν) 2 a (lackZ (μ (10 + 2 + a))) else cp 1 2 ν) 2 2) (fun z => z.2) g1 (by omega) g6b hqb
  have k6a := k7 a _ hab g6
  have K2 := sgK (x := y) N hy hb8 g1 g6b hqb (fun o τ => J5_ownBy_43 N (c : Int) (a : Int) (n : Int) (if x = 1 ∧ lackZ (μ (10 + 2 + a)) ≤ cp 1 2 ν 2 2 then lackZ (μ (10 + 2 + a)) else 0) o τ)
  have fr : ∀ d, d ≠ 2 → (if y = 1 ∧ lackZ (μ (10 + 2 + b)) ≤ (if x = 1 ∧ lackZ (μ (10 + 2 + a)) ≤ cp 1 2 ν 2 2 then isR (cp 1 2 ν) 2 a (lackZ (μ (10 + 2 + a))) else cp 1 2 ν) 2 2 then isR (if x = 1 ∧ lackZ (μ (10 + 2 + a)) ≤ cp 1 2 ν 2 2 then isR (cp 1 2 ν) 2 a (lackZ (μ (10 + 2 + a))) else cp 1 2 ν) 2 b (lackZ (μ (10 + 2 + b))) else (if x = 1 ∧ lackZ (μ (10 + 2 + a)) ≤ cp 1 2 ν 2 2 then isR (cp 1 2 ν) 2 a (lackZ (μ (10 + 2 + a))) else cp 1 2 ν)) d = ν d := fun d hd => (k5 d hd).trans ((g5 d hd).trans (cp_row hd))
  have z0 := k2.trans g2
  have z1 := k3.trans g3
  rw [g4, s4] at K2 k6 k6a k1 z0 z1 fr
  rw [s4] at K1
  rw [show (if x = 1 ∧ lackZ (μ (10 + 2 + a)) ≤ μ 1 2 then μ 1 2 - lackZ (μ (10 + 2 + a)) else μ 1 2) = stZ (fun i => μ (10 + 2 + i)) a x (μ 1 2) from rfl] at K2 k6 k6a k1 z0 z1 fr
  generalize hσ : (if y = 1 ∧ lackZ (μ (10 + 2 + b)) ≤ stZ (fun i => μ (10 + 2 + i)) a x (μ 1 2) then isR (if x = 1 ∧ lackZ (μ (10 + 2 + a)) ≤ μ 1 2 then isR (cp 1 2 ν) 2 a (lackZ (μ (10 + 2 + a))) else cp 1 2 ν) 2 b (lackZ (μ (10 + 2 + b))) else (if x = 1 ∧ lackZ (μ (10 + 2 + a)) ≤ μ 1 2 then isR (cp 1 2 ν) 2 a (lackZ (μ (10 + 2 + a))) else cp 1 2 ν)) = σ at K2 k6 k6a k1 z0 z1 fr
  have e0 : M5_ownBy N (c : Int) (a : Int) x (b : Int) y (n : Int) ν = J5_ownBy_43 N (c : Int) (a : Int) (n : Int) (if x = 1 ∧ lackZ (μ (10 + 2 + a)) ≤ μ 1 2 then lackZ (μ (10 + 2 + a)) else 0) (if y = 1 ∧ lackZ (μ (10 + 2 + b)) ≤ stZ (fun i => μ (10 + 2 + i)) a x (μ 1 2) then lackZ (μ (10 + 2 + b)) else 0) σ := by
    unfold M5_ownBy
    rw [M5_copies_eq N 1 2 (by omega) (by decide), Option.bind_some]
    exact K1.trans K2
  have t1 : ∀ {p : Nat} {q : Nat → Int}, (p : Int) < μ 1 0 → at6 σ 2 p q → M5_throughOf N 2 (p : Int) (days 2 n σ) = some (dayI n q 4 - μ (10 + 2 + p) 4) := by
    intro p q hp h
    refine M5_throughOf_eq N (by omega) (days_at (by omega) h n) (fun k hk => ?_)
    rw [days_c (by decide), fr 1 (by decide), e1]
    exact a1.2.2.2.2 p hp k hk
  refine ⟨days 2 n σ, ?_, fun d h2 h43 h48 h49 => ?_⟩
  · rw [e0]
    unfold J5_ownBy_43
    rw [M5_daysOn_eq N 2 (by omega) k1 n (by omega) (by omega), Option.bind_some]
    by_cases h : c = a
    · subst h
      rw [t1 ha k6a, Option.bind_some, if_pos (show inR (c : Int) ∧ inR (c : Int) by omega), if_pos rfl, if_pos rfl]
      unfold wtZ
      by_cases d : x = 1 ∧ lackZ (μ (10 + 2 + c)) ≤ μ 1 2
      · rw [if_pos d, if_pos d, if_pos d, if_pos (by omega)]
        rfl
      · rw [if_neg d, if_neg d, if_neg d, if_pos (by decide)]
        unfold wgB thn
        dsimp only
        rw [fu_self]
        congr 2
        omega
    · have hcb : c = b := by omega
      subst hcb
      rw [t1 hb k6, Option.bind_some, if_pos (show inR (c : Int) ∧ inR (a : Int) by omega), if_neg (show ¬ (c : Int) = (a : Int) by omega), if_neg h]
      unfold wtZ
      by_cases d : y = 1 ∧ lackZ (μ (10 + 2 + c)) ≤ stZ (fun i => μ (10 + 2 + i)) a x (μ 1 2)
      · rw [if_pos d, if_pos d, if_pos d, if_pos (by omega)]
        rfl
      · rw [if_neg d, if_neg d, if_neg d, if_pos (by decide)]
        unfold wgB thn
        dsimp only
        rw [fu_self]
        congr 2
        omega
  · rw [show days 2 n σ d = σ d from funext fun b => days_c h2 n, fr d h2]
    exact hf d h2 h43 h48 h49
theorem two49 (N : Nat) (hN : 200 ≤ N) {μ : mm} (a1 : relO 10 1 μ) (a2 : okR μ 1) (a3 : μ 1 1 ≤ 999) (n : Nat) (hn : n ≤ 100) (a b : Nat) (ha : (a : Int) < μ 1 0) (hb : (b : Int) < μ 1 0) (hab : a ≠ b) : ∀ (k i : Nat) (ν : mm), i ≤ 4 → 4 < i + k → frB μ ν →
    ∃ ν', L5_two_49 N k (a : Int) (b : Int) (n : Int) (i : Int) ν = some (twZ (fun s => wtZ n (fun i => μ (10 + 2 + i)) a s (μ 1 2)) (fun s t => wtZ n (fun i => μ (10 + 2 + i)) b t (stZ (fun i => μ (10 + 2 + i)) a s (μ 1 2))) (4 - i) i, ν') ∧ frB μ ν' := by
  have i1 := fun s => wtZ_in n (Q := fun i => μ (10 + 2 + i)) (p := a) (offP a1 a2 ha) s (μ 1 2)
  have i2 := fun t S => wtZ_in n (Q := fun i => μ (10 + 2 + i)) (p := b) (offP a1 a2 hb) t S
  intro k
  induction k with
  | zero => intro i ν h1 h2; omega
  | succ k ih =>
    intro i ν h1 h2 hf
    rw [L5_two_49, if_pos (show inR (i : Int) by omega)]
    by_cases c : 4 ≤ (i : Int)
    · rw [if_pos c, show 4 - i = 0 by omega]
      exact ⟨ν, rfl, hf⟩
    · obtain ⟨ν1, o1, f1⟩ := own5 N hN a1 a2 a3 n hn a b ha hb hab (x := 1 - (i : Int) / 2) (y := (i : Int) % 2) (by omega) (by omega) hf a (Or.inl rfl)
      obtain ⟨ν2, o2, f2⟩ := own5 N hN a1 a2 a3 n hn a b ha hb hab (x := (i : Int) / 2) (y := (i : Int) % 2) (by omega) (by omega) f1 a (Or.inl rfl)
      obtain ⟨ν3, o3, f3⟩ := own5 N hN a1 a2 a3 n hn a b ha hb hab (x := (i : Int) / 2) (y := 1 - (i : Int) % 2) (by omega) (by omega) f2 b (Or.inr rfl)
      obtain ⟨ν4, o4, f4⟩ := own5 N hN a1 a2 a3 n hn a b ha hb hab (x := (i : Int) / 2) (y := (i : Int) % 2) (by omega) (by omega) f3 b (Or.inr rfl)
      rw [if_pos rfl] at o1 o2
      rw [if_neg (fun z => hab z.symm)] at o3 o4
      have j1 := i1 ((i : Int) / 2)
      have j2 := i1 (1 - (i : Int) / 2)
      have j3 := i2 ((i : Int) % 2) (stZ (fun i => μ (10 + 2 + i)) a ((i : Int) / 2) (μ 1 2))
      have j4 := i2 (1 - (i : Int) % 2) (stZ (fun i => μ (10 + 2 + i)) a ((i : Int) / 2) (μ 1 2))
      rw [if_neg c]
      simp only [bnd, J5_two_134]
      rw [if_pos (show 0 ≤ (i : Int) ∧ inR (i : Int) by omega), if_pos (show 0 ≤ (i : Int) ∧ inR (i : Int) by omega), o1, Option.bind_some]
      dsimp only
      rw [o2, Option.bind_some]
      dsimp only
      rw [o3, Option.bind_some]
      dsimp only
      rw [o4, Option.bind_some]
      dsimp only
      rw [show 4 - i = (4 - (i + 1)) + 1 by omega, twZ, if_pos (show inR (wtZ n (fun i => μ (10 + 2 + i)) a (1 - (i : Int) / 2) (μ 1 2)) ∧ inR (wtZ n (fun i => μ (10 + 2 + i)) a ((i : Int) / 2) (μ 1 2)) by omega), if_pos (show inR (wtZ n (fun i => μ (10 + 2 + i)) b (1 - (i : Int) % 2) (stZ (fun i => μ (10 + 2 + i)) a ((i : Int) / 2) (μ 1 2))) ∧ inR (wtZ n (fun i => μ (10 + 2 + i)) b ((i : Int) % 2) (stZ (fun i => μ (10 + 2 + i)) a ((i : Int) / 2) (μ 1 2))) by omega)]
      by_cases g : wtZ n (fun i => μ (10 + 2 + i)) a ((i : Int) / 2) (μ 1 2) < wtZ n (fun i => μ (10 + 2 + i)) a (1 - (i : Int) / 2) (μ 1 2)
      · rw [if_pos g, if_pos g]
        exact ih (i + 1) ν2 (by omega) (by omega) f2
      · rw [if_neg g, if_neg g]
        by_cases h : wtZ n (fun i => μ (10 + 2 + i)) b ((i : Int) % 2) (stZ (fun i => μ (10 + 2 + i)) a ((i : Int) / 2) (μ 1 2)) < wtZ n (fun i => μ (10 + 2 + i)) b (1 - (i : Int) % 2) (stZ (fun i => μ (10 + 2 + i)) a ((i : Int) / 2) (μ 1 2))
        · rw [if_pos h, if_pos h]
          exact ih (i + 1) ν4 (by omega) (by omega) f4
        · rw [if_neg h, if_neg h]
          exact ⟨ν4, rfl, f4⟩
theorem op_two (N : Nat) (hN : 200 ≤ N) {μ : mm} (R : Rel μ) {p v n : Int} (hp : inR p) (hv : inR v) (hn : inR n) : Op (M4_two N p v n) (M5_two N p v n) μ := by
  obtain ⟨⟨a1, a2, a3⟩, -⟩ := id R
  have hm := a2.1
  have hu := unkZ_in μ p
  have hu2 := unkZ_in μ v
  have ho := outZ_in n 1 30
  have g32 : ∀ (ν : mm) (c : Int), -6 ≤ c ∧ c ≤ -1 → J5_two_32 N p v n c ν = M5_no N c ν := by
    intro ν c hc
    simp only [J5_two_32]
    rw [if_pos (show inR c from by omega), if_neg (show ¬ c = 0 by omega), rf5 N (by omega)]
  have g20 : ∀ y0 : Int, (y0 = 0 ∨ y0 = -1) → J4_two_20 N p v n y0 (unkZ μ v) (unkZ μ p) μ = if fstZ (fstZ (unkZ μ p) (unkZ μ v) y0) (outZ n 1 30) 0 = 0 then ((M4_weigh N n μ).bind fun (q8 : mm) => L4_two_60 N N p v 0 q8) else M4_refused N (fstZ (fstZ (unkZ μ p) (unkZ μ v) y0) (outZ n 1 30) 0) μ := by
    intro y0 hy
    have hf := fstZ_in (c := y0) hu hu2 (by omega)
    have hf2 := fstZ_in (c := 0) hf ho (by decide)
    simp only [J4_two_20]
    rw [M4_firstOf_eq N hu hu2, Option.bind_some, M4_outside_eq N hn (by decide) (by decide), Option.bind_some, M4_firstOf_eq N hf ho, Option.bind_some, if_pos (show inR (fstZ (fstZ (unkZ μ p) (unkZ μ v) y0) (outZ n 1 30) 0) by omega), rf4 N hf2]
  have e4 : M4_two N p v n μ = J4_two_20 N p v n (if p = v then -1 else 0) (unkZ μ v) (unkZ μ p) μ := by
    simp only [M4_two]
    rw [M4_unknown_eq N hp a1 a2, Option.bind_some, M4_unknown_eq N hv a1 a2, Option.bind_some, if_pos (show inR p ∧ inR v from ⟨hp, hv⟩)]
    split <;> rfl
  rw [g20 _ (by split <;> omega)] at e4
  by_cases k : unkZ μ p = 0
  · have kk := unkZ_0 k
    by_cases k' : unkZ μ v = 0
    · have kk' := unkZ_0 k'
      by_cases e : p = v
      · rw [if_pos e, fst3 k k', fst1 (by decide), if_neg (by decide)] at e4
        refine Op_ref N R (c := -1) (by decide) e4 (fun ν hν => ?_)
        have r1 : ν 1 = μ 1 := by rw [hν]; exact r4_c (by decide)
        simp only [M5_two, J5_two_31]
        rw [M5_isOne_eq N hp (okR_congr a2 r1), Option.bind_some, r1, if_pos kk, if_pos (by decide), if_neg (by decide), M5_isOne_eq N hv (okR_congr a2 r1), Option.bind_some, r1, if_pos kk', if_pos (by decide), if_neg (by decide), if_pos (show inR p ∧ inR v from ⟨hp, hv⟩), if_pos e, g32 ν (-1) (by decide)]
      · rw [if_neg e, fst3 k k'] at e4
        have m5 : ∀ ν : mm, ν 1 = μ 1 → M5_two N p v n ν = J5_two_32 N p v n (outZ n 1 30) ν := by
          intro ν r1
          simp only [M5_two]
          rw [M5_isOne_eq N hp (okR_congr a2 r1), Option.bind_some, r1, if_pos kk, if_pos (by decide), if_neg (by decide), M5_isOne_eq N hv (okR_congr a2 r1), Option.bind_some, r1, if_pos kk', if_pos (by decide), if_neg (by decide), if_pos (show inR p ∧ inR v from ⟨hp, hv⟩), if_neg e, M5_wrongBy_eq N hn (by decide) (by decide), Option.bind_some]
        by_cases o : outZ n 1 30 = 0
        · have oo := outZ_0 o
          rw [fst0 rfl o, if_pos rfl] at e4
          obtain ⟨j, rfl⟩ := Int.eq_ofNat_of_zero_le (show 0 ≤ n by omega)
          obtain ⟨a, rfl⟩ := Int.eq_ofNat_of_zero_le kk.1
          obtain ⟨b, rfl⟩ := Int.eq_ofNat_of_zero_le kk'.1
          obtain ⟨m, hmm⟩ := Int.eq_ofNat_of_zero_le hm.1
          obtain ⟨μ1, eW, fW, hW⟩ := weigh4 N hN a1 a2 j (by omega) m hmm.symm N 0 μ (by omega) (by omega) (fun _ _ _ _ => rfl) (fun i hi => by omega)
          have t4 := two60 N a1 a2 j m hmm.symm fW hW a b (by omega) (by omega) N 0 (by omega) (by omega)
          obtain ⟨μ2, t5, f5⟩ := two49 N hN a1 a2 a3 j (by omega) a b kk.2 kk'.2 (fun z => e (by rw [z])) N 0 μ1 (by omega) (by omega) (fun a h2 h43 h48 h49 => fW a h43 h48 h49)
          rw [show ((0 : Nat) : Int) = 0 from rfl] at eW t4 t5
          refine ⟨twZ (fun s => wtZ j (fun i => μ (10 + 2 + i)) a s (μ 1 2)) (fun s t => wtZ j (fun i => μ (10 + 2 + i)) b t (stZ (fun i => μ (10 + 2 + i)) a s (μ 1 2))) (4 - 0) 0, μ1, μ2, ?_, (m5 μ1 (fW 1 (by decide) (by decide) (by decide))).trans ?_, Rel_frB R f5⟩
          · rw [e4]
            unfold M4_weigh
            rw [eW, Option.bind_some]
            exact t4
          · simp only [J5_two_32]
            rw [o, if_pos (by decide), if_pos rfl]
            exact t5
        · rw [fst2 rfl o, if_neg o] at e4
          exact Op_ref N R (c := outZ n 1 30) (by omega) e4 (fun ν hν => by rw [m5 ν (by rw [hν]; exact r4_c (by decide)), g32 ν _ (by omega)])
    · obtain ⟨k1, k2⟩ := unkZ_no k'
      rw [fst2 k k', k1, fst1 (by decide), if_neg (by decide)] at e4
      refine Op_ref N R (c := -1) (by decide) e4 (fun ν hν => ?_)
      have r1 : ν 1 = μ 1 := by rw [hν]; exact r4_c (by decide)
      simp only [M5_two, J5_two_31]
      rw [M5_isOne_eq N hp (okR_congr a2 r1), Option.bind_some, r1, if_pos kk, if_pos (by decide), if_neg (by decide), M5_isOne_eq N hv (okR_congr a2 r1), Option.bind_some, r1, if_neg k2, if_pos (by decide), if_pos rfl, g32 ν (-1) (by decide)]
  · obtain ⟨k1, k2⟩ := unkZ_no k
    rw [fst1 k, k1, fst1 (by decide), if_neg (by decide)] at e4
    refine Op_ref N R (c := -1) (by decide) e4 (fun ν hν => ?_)
    have r1 : ν 1 = μ 1 := by rw [hν]; exact r4_c (by decide)
    simp only [M5_two, J5_two_31]
    rw [M5_isOne_eq N hp (okR_congr a2 r1), Option.bind_some, r1, if_neg k2, if_pos (by decide), if_pos rfl, g32 ν (-1) (by decide)]
end
